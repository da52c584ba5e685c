import java.util.Random;

/** All promises: random runs of calls, each answer compared with the second reading's. */
public final class OracleTest {
    private static final int CALLS = 512;
    private static final int LONGEST_TEXT = 125;
    private final PinAtlas x = new PinAtlas();
    private final Oracle o = new Oracle();
    private final Random r;
    private final String run;
    private int calls = 0;

    private OracleTest(String name, long seed) {
        r = new Random(seed);
        run = name + " " + seed;
    }

    public static void main(String[] args) {
        int runs = args.length > 0 ? Integer.parseInt(args[0]) : 400;
        for (int k = 0; k < runs; k++) {
            OracleTest t = new OracleTest("run", k);
            t.plain(k % 4 == 0 ? 12 : k % 4 == 1 ? 0 : 40);
        }
        Due.end();
    }

    private void plain(int edge) {
        while (calls < CALLS - LONGEST_TEXT - 1) {
            if (r.nextInt(90) == 0) {
                text();
            } else {
                one(edge > 0 && r.nextInt(edge) == 0);
            }
        }
    }

    /** A number that a call may well be told, or now and then any other one. */
    private int in(boolean odd, int least, int greatest) {
        if (odd && r.nextInt(4) == 0) {
            int[] odds = {least - 1, greatest + 1, -1, Integer.MIN_VALUE, Integer.MAX_VALUE, -r.nextInt(50), r.nextInt()};
            return odds[r.nextInt(odds.length)];
        }
        return least + r.nextInt(greatest - least + 1);
    }

    private int pin(boolean odd) {
        return in(odd, 0, odd ? 6 : Math.max(0, o.world.pins.size() - 1));
    }

    private int cell(boolean odd) {
        return in(odd, 0, o.world.rows * o.world.columns - 1);
    }

    private void due(String call, long got, long want) {
        calls++;
        Due.is(run + ": " + call, got, want);
    }

    private String told(int... v) {
        return java.util.Arrays.toString(v);
    }

    private void one(boolean odd) {
        int p = pin(odd);
        int q = pin(odd);
        int c = cell(odd);
        int w = in(odd, 0, 1);
        switch (r.nextInt(46)) {
            case 0: if (r.nextInt(12) == 0) { int a = in(odd, 3, 7), b = in(odd, 3, 7); due("cushion" + told(a, b), x.cushion(a, b), o.cushion(a, b)); } break;
            case 1: case 2: { int k = in(odd, 0, 4); due("pin" + told(k, c), x.pin(k, c), o.pin(k, c)); break; }
            case 3: { int l = in(odd, 1, 12); due("thread" + told(p, q, l), x.thread(p, q, l), o.thread(p, q, l)); break; }
            case 4: case 5: { int v = in(odd, 0, 3); due("of" + told(p, v), x.of(p, v), o.of(p, v)); break; }
            case 6: case 7: { int t = in(odd, 0, 5), v = in(odd, 0, 4); due("at" + told(t, v), x.at(t, v), o.at(t, v)); break; }
            case 8: due("cell" + told(c), x.cell(c), o.cell(c)); break;
            case 9: case 10: { int v = in(odd, 0, 8); due("count" + told(v), x.count(v), o.count(v)); break; }
            case 11: case 12: { int n = r.nextInt(3) == 0 ? in(odd, 1, 40) : in(odd, 1, 4); due("days" + told(n), x.days(n), o.days(n)); break; }
            case 13: case 14: due("out" + told(p), x.out(p), o.out(p)); break;
            case 15: case 16: case 17: due("put" + told(p, c), x.put(p, c), o.put(p, c)); break;
            case 18: { int t = in(odd, 0, 5); due("cut" + told(t), x.cut(t), o.cut(t)); break; }
            case 19: { int v = in(odd, 0, 3); due("course" + told(p, v), x.course(p, v), o.course(p, v)); break; }
            case 20: case 21: { int n = r.nextInt(3) == 0 ? in(odd, 1, 40) : in(odd, 1, 4); due("drift" + told(n), x.drift(n), o.drift(n)); break; }
            case 22: due("undo", x.undo(), o.undo()); break;
            case 23: { int v = r.nextInt(); due("seed" + told(v), x.seed(v), o.seed(v)); break; }
            case 24: { int n = in(odd, 0, 60); due("ahead" + told(p, n), x.ahead(p, n), o.ahead(p, n)); break; }
            case 25: { int n = in(odd, 0, 60); due("holes" + told(n), x.holes(n), o.holes(n)); break; }
            case 26: due("comes" + told(p, c), x.comes(p, c), o.comes(p, c)); break;
            case 27: due("side" + told(p, q), x.side(p, q), o.side(p, q)); break;
            case 28: due("hole" + told(p, c, w), x.hole(p, c, w), o.hole(p, c, w)); break;
            case 29: due("cuts" + told(p, c, w), x.cuts(p, c, w), o.cuts(p, c, w)); break;
            case 30: due("place" + told(p, c, w), x.place(p, c, w), o.place(p, c, w)); break;
            case 31: due("nearest" + told(c, w), x.nearest(c, w), o.nearest(c, w)); break;
            case 32: due("bound" + told(p), x.bound(p), o.bound(p)); break;
            case 33: due("between" + told(p, q), x.between(p, q), o.between(p, q)); break;
            case 34: due("which" + told(w), x.which(w), o.which(w)); break;
            case 35: { int n = in(odd, 0, 30), k = in(odd, 0, 10); due("breaks" + told(p, c, n, k, w), x.breaks(p, c, n, k, w), o.breaks(p, c, n, k, w)); break; }
            case 36: if (r.nextInt(3) == 0) { due("image", x.image(), o.image()); } break;
            case 37: if (r.nextInt(6) == 0) { due("restore", x.restore(), o.restore()); } break;
            default: sheets(odd, p, c, w); break;
        }
    }

    private void sheets(boolean odd, int p, int c, int w) {
        int s = in(odd, 0, 3);
        int t = in(odd, 0, 3);
        int l = odd || r.nextInt(8) == 0 ? in(odd, 0, 3) : o.lanes[s];
        int n = r.nextInt(20) == 0 ? in(true, 0, 24) : 1 + r.nextInt(8);
        int i = r.nextInt(20) == 0 ? in(true, 0, 24) : r.nextInt(6);
        int j = r.nextInt(20) == 0 ? in(true, 0, 24) : r.nextInt(6);
        switch (r.nextInt(8)) {
            case 0: { int m = odd ? in(true, -1, 25) : r.nextInt(25); due("sheet" + told(s, l, m), x.sheet(s, l, m), o.sheet(s, l, m)); break; }
            case 1: if (r.nextInt(4) == 0) { due("drop" + told(s), x.drop(s), o.drop(s)); } break;
            case 2: { long v = r.nextBoolean() ? c : r.nextLong() << 32 | c; due("item" + told(s, l, i) + v, x.item(s, l, i, v), o.item(s, l, i, v)); break; }
            case 3: due("copy" + told(s, i, t, j, n), x.copy(s, i, t, j, n), o.copy(s, i, t, j, n)); break;
            case 4: case 5: due("film" + told(p, n, s, l, i), x.film(p, n, s, l, i), o.film(p, n, s, l, i)); break;
            default: {
                if (!odd) {
                    due("film" + told(p, n, s, l, i), x.film(p, n, s, l, i), o.film(p, n, s, l, i));
                }
                due("felt" + told(p, s, l, i, n, w), x.felt(p, s, l, i, n, w), o.felt(p, s, l, i, n, w));
                break;
            }
        }
    }

    private void text() {
        String text = r.nextInt(4) == 0 ? anyText() : fairText();
        if (r.nextInt(2) == 0 && !text.isEmpty()) {
            int k = r.nextInt(text.length());
            String with = r.nextInt(3) == 0 ? "" : String.valueOf(anyLetter());
            text = text.substring(0, k) + with + text.substring(k + r.nextInt(2));
        }
        for (int k = 0; k < Math.min(LONGEST_TEXT, text.length()); k++) {
            due("type" + told(text.charAt(k)), x.type(text.charAt(k)), o.type(text.charAt(k)));
        }
        due("read of '" + o.tape + "'", x.read(), o.read());
    }

    private char anyLetter() {
        String likely = "34567x;psrnmotudlr=0123456789 ";
        return r.nextInt(10) == 0 ? (char) (32 + r.nextInt(95)) : likely.charAt(r.nextInt(likely.length()));
    }

    private String anyText() {
        StringBuilder b = new StringBuilder();
        for (int k = r.nextInt(12); k > 0; k--) {
            b.append(anyLetter());
        }
        return b.toString();
    }

    private String fairText() {
        int rows = 3 + r.nextInt(5);
        int columns = 3 + r.nextInt(5);
        int pins = 0;
        StringBuilder b = new StringBuilder();
        put(b, rows + "x" + columns);
        for (int k = r.nextInt(18); k > 0; k--) {
            int kind = r.nextInt(pins > 1 ? 12 : 7);
            String spot = r.nextInt(rows) + "" + r.nextInt(columns);
            if (kind < 6) {
                put(b, ";" + "psrnm".charAt(r.nextInt(5)) + spot + (r.nextBoolean() ? "" : "udlr".charAt(r.nextInt(4))));
                pins++;
            } else if (kind == 6) {
                put(b, ";o" + spot);
            } else {
                put(b, ";t" + r.nextInt(pins) + r.nextInt(pins) + "=" + (1 + r.nextInt(r.nextInt(9) == 0 ? 140 : 12)));
            }
        }
        return b.toString();
    }

    private void put(StringBuilder b, String part) {
        for (int k = 0; k < part.length(); k++) {
            if (r.nextInt(30) == 0) {
                b.append(' ');
            }
            b.append(part.charAt(k));
        }
    }
}
