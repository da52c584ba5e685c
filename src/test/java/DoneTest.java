/** Promises 11 to 18: days, out, put, cut, course, drift, undo, seed. */
public final class DoneTest {
    public static void main(String[] args) {
        ships();
        rusty();
        needles();
        missions();
        rising();
        daysRefused();
        outAndPut();
        cut();
        course();
        drift();
        undo();
        lost();
        seed();
        Due.end();
    }

    private static void steps(String name, PinAtlas x, int pin, int[] cells) {
        for (int k = 0; k < cells.length; k++) {
            x.days(1);
            Due.is(name + ", day " + (k + 1), x.of(pin, 1), cells[k]);
        }
    }

    private static void ships() {
        PinAtlas x = Due.of("3x4;s10;p00;p03");
        steps("to and fro", x, 0, new int[] {5, 6, 7, 7, 6, 5, 4, 4, 5});
        Due.is("its course", x.of(0, 2), 3);
        Due.is("a port stays", x.of(1, 1), 0);
        x.course(0, 0);
        steps("up and down", x, 0, new int[] {1, 1, 5, 9, 9, 5, 1});
        PinAtlas blocked = Due.of("3x4;s10;p12");
        steps("a pin in its way", blocked, 0, new int[] {5, 5, 4, 4, 5});
        PinAtlas tied = Due.of("3x5;s10;p00;t01=3");
        steps("a thread's length", tied, 0, new int[] {6, 7, 7, 6, 5, 5, 6});
        tied.cut(0);
        steps("the thread cut", tied, 0, new int[] {7, 8, 9});
        PinAtlas slack = Due.of("3x5;s14l;p00;t01=3");
        steps("caught once it is near", slack, 0, new int[] {8, 7, 6, 5, 5, 6, 7, 7, 6});
        PinAtlas hole = Due.of("3x4;s10;o12;o22");
        Due.is("a hole that is gone on closes", hole.days(2), 1);
        Due.is("there the ship is", hole.cell(6), 0);
        hole.days(1);
        Due.is("and it stays closed", hole.cell(6), PinAtlas.NONE);
        PinAtlas shut = Due.of("3x3;s11;p01;p10;p12;p21");
        shut.days(1);
        Due.is("shut in, its cell", shut.of(0, 1), 4);
        Due.is("shut in, the other way round", shut.of(0, 2), 2);
        shut.course(0, 0);
        shut.days(1);
        Due.is("shut in, up becomes down", shut.of(0, 2), 1);
        shut.days(1);
        Due.is("shut in, down becomes up", shut.of(0, 2), 0);
    }

    private static void rusty() {
        PinAtlas x = Due.of("5x5;r00;o22");
        steps("on even days, rows ahead", x, 0, new int[] {5, 5, 10, 10, 11, 11, 12, 12, 12});
        Due.is("the hole is closed", x.count(5), 0);
        PinAtlas odd = Due.of("5x5;p44");
        odd.days(1);
        odd.pin(2, 0);
        odd.pin(0, 4);
        odd.out(2);
        steps("from an odd day on", odd, 1, new int[] {0, 1, 1, 2});
        PinAtlas like = Due.of("5x5;r22;o20;o02;o24");
        steps("of like ones the first", like, 0, new int[] {7, 7, 2});
        PinAtlas nearest = Due.of("5x5;r22;o00;o33");
        steps("the nearest one", nearest, 0, new int[] {17, 17, 18});
        PinAtlas none = Due.of("5x5;r22");
        steps("no hole", none, 0, new int[] {12, 12});
        PinAtlas inTheWay = Due.of("5x5;r02;p12;o44");
        steps("a pin on the row ahead: it does not turn", inTheWay, 0, new int[] {2, 2, 2});
        inTheWay.out(1);
        steps("then that pin's hole is nearest", inTheWay, 0, new int[] {2, 7});
        PinAtlas left = Due.of("5x5;r24u;o20");
        steps("to the left", left, 0, new int[] {13, 13, 12});
        Due.is("its course stays as it is", left.of(0, 2), 0);
        PinAtlas up = Due.of("5x5;r44;o03");
        steps("up, then left", up, 0, new int[] {19, 19, 14, 14, 9, 9, 4, 4, 3});
    }

    private static void needles() {
        PinAtlas x = Due.of("4x3;n31");
        steps("up", x, 0, new int[] {7, 4, 1, 1, 1});
        Due.is("at the edge its course is down", x.of(0, 2), 1);
        PinAtlas under = Due.of("4x3;n31l;p11");
        under.days(1);
        Due.is("its course is up", under.of(0, 2), 0);
        Due.is("one up", under.of(0, 1), 7);
        under.days(1);
        Due.is("a pin above, it stays", under.of(0, 1), 7);
        Due.is("the other way round", under.of(0, 2), 1);
        under.days(1);
        Due.is("it never goes down", under.of(0, 1), 7);
        under.out(1);
        Due.is("it closes the hole above", under.days(1), 0);
        PinAtlas edge = Due.of("3x3;n01d");
        edge.days(1);
        Due.is("told down, it tries up all the same", edge.of(0, 1), 1);
    }

    private static void missions() {
        PinAtlas x = Due.of("5x5;m00;o22");
        steps("each day", x, 0, new int[] {5, 10, 11, 12, 12});
        PinAtlas two = Due.of("5x5;m00;o02;o40");
        steps("one hole, then the other", two, 0, new int[] {1, 2, 7, 12, 17, 22, 21, 20, 20});
        PinAtlas tied = Due.of("5x5;m00;p04;o40;t01=5");
        steps("held back by a thread", tied, 0, new int[] {5, 5, 5});
        tied.cut(0);
        steps("until it is cut", tied, 0, new int[] {10, 15, 20});
    }

    private static void rising() {
        PinAtlas x = Due.of("3x5;s11;s10");
        x.days(1);
        Due.is("the first makes room", x.of(0, 1), 7);
        Due.is("for the second", x.of(1, 1), 6);
        PinAtlas y = Due.of("3x5;s10;s11");
        y.days(1);
        Due.is("the first finds a pin in its way", y.of(0, 1), 5);
        Due.is("and turns", y.of(0, 2), 2);
        Due.is("the second goes", y.of(1, 1), 7);
        PinAtlas z = Due.of("3x5;m10;m14;o12");
        z.days(2);
        Due.is("the first has the hole", z.of(0, 1), 7);
        Due.is("the second no goal then", z.of(1, 1), 8);
    }

    private static void daysRefused() {
        PinAtlas x = Due.of("3x4;s10");
        Due.is("days(0)", x.days(0), PinAtlas.BAD);
        Due.is("days(41)", x.days(41), PinAtlas.BAD);
        Due.is("days(-1)", x.days(-1), PinAtlas.BAD);
        Due.is("days(MAX)", x.days(Integer.MAX_VALUE), PinAtlas.BAD);
        Due.is("drift(0)", x.drift(0), PinAtlas.BAD);
        Due.is("drift(41)", x.drift(41), PinAtlas.BAD);
        Due.is("nothing is to be undone", x.count(8), 0);
        for (int k = 0; k < 249; k++) {
            x.days(40);
        }
        Due.is("day 9960", x.count(4), 9960);
        Due.is("40 more would be too many", x.days(40), PinAtlas.FULL);
        Due.is("40 more of a drift, too", x.drift(40), PinAtlas.FULL);
        Due.is("BAD ahead of FULL", x.days(41), PinAtlas.BAD);
        Due.is("the day stays", x.count(4), 9960);
        Due.is("39 more", x.days(39), 0);
        Due.is("the last day", x.count(4), 9999);
        Due.is("days(1)", x.days(1), PinAtlas.FULL);
        Due.is("drift(1)", x.drift(1), PinAtlas.FULL);
        Due.is("the draw stays", x.seed(1), 1);
        Due.is("what is foretold goes on all the same", x.ahead(0, 60), x.ahead(0, 52));
        x.undo();
        Due.is("one undone, one more may be", x.days(1), 0);
    }

    private static void outAndPut() {
        PinAtlas x = Due.of("3x4;s10;p23;m00;o22");
        Due.is("out(0)", x.out(0), 4);
        Due.is("a hole is left", x.cell(4), 100);
        Due.is("out again", x.out(0), PinAtlas.NOT);
        Due.is("out(-1)", x.out(-1), PinAtlas.BAD);
        Due.is("out(3)", x.out(3), PinAtlas.BAD);
        Due.is("one may be undone", x.count(8), 1);
        Due.is("put on another cell", x.put(0, 8), 2);
        Due.is("put again", x.put(0, 9), PinAtlas.NOT);
        x.out(0);
        Due.is("three holes", x.count(5), 3);
        Due.is("put where a pin is", x.put(0, 11), PinAtlas.NOT);
        Due.is("put where none can be", x.put(0, 12), PinAtlas.BAD);
        Due.is("put(0, -1)", x.put(0, -1), PinAtlas.BAD);
        Due.is("put(3, 0)", x.put(3, 0), PinAtlas.BAD);
        Due.is("put(-1, 0)", x.put(-1, 0), PinAtlas.BAD);
        Due.is("BAD ahead of NOT", x.put(1, 12), PinAtlas.BAD);
        Due.is("put on a hole, which closes", x.put(0, 10), 2);
        Due.is("there it is", x.cell(10), 0);
        x.out(0);
        x.days(2);
        Due.is("who is out does not go", x.of(0, 1), PinAtlas.NONE);
        Due.is("its course stays", x.of(0, 2), 3);
        Due.is("a hole pulls", x.of(2, 1), 8);
    }

    private static void cut() {
        PinAtlas x = Due.of("3x4;p00;p01;p02;t01=1;t12=1;t02=2");
        Due.is("cut(1)", x.cut(1), 5);
        Due.is("cut again", x.cut(1), PinAtlas.NOT);
        Due.is("cut(3)", x.cut(3), PinAtlas.BAD);
        Due.is("cut(-1)", x.cut(-1), PinAtlas.BAD);
        x.out(0);
        Due.is("one that does not hold may be cut", x.cut(0), 0);
        Due.is("three may be undone", x.count(8), 3);
        x.put(0, 0);
        Due.is("a cut one never holds again", x.count(7), 4);
    }

    private static void course() {
        PinAtlas x = Due.of("3x4;s10;p00u");
        Due.is("course(0, 1)", x.course(0, 1), 3);
        Due.is("course(0, 1) again", x.course(0, 1), PinAtlas.NOT);
        Due.is("course(1, 2)", x.course(1, 2), 0);
        Due.is("course(0, 4)", x.course(0, 4), PinAtlas.BAD);
        Due.is("course(0, -1)", x.course(0, -1), PinAtlas.BAD);
        Due.is("course(2, 0)", x.course(2, 0), PinAtlas.BAD);
        Due.is("course(-1, 0)", x.course(-1, 0), PinAtlas.BAD);
        x.out(0);
        Due.is("of a pin that is out", x.course(0, 0), 1);
        Due.is("four may be undone", x.count(8), 4);
        Due.is("its course", x.of(0, 2), 0);
    }

    private static void drift() {
        // By hand: 1 -> 1103527590, cell 16838 mod 25 = 13, 8621309 mod 3 = 2: no dust.
        PinAtlas x = new PinAtlas();
        Due.is("drift(1)", x.drift(1), 0);
        Due.is("the draw", x.seed(1103527590), 1103527590);
        long draw = 1103527590L;
        boolean[] holes = new boolean[25];
        int many = 0;
        for (int k = 0; k < 30; k++) {
            draw = draw * 1103515245L + 12345L & 0x7fffffffL;
            int c = (int) (draw / 65536 % 25);
            if (draw / 128 % 3 == 0 && !holes[c]) {
                holes[c] = true;
                many++;
            }
            Due.is("drift, day " + k, x.drift(1), many);
            Due.is("its cell", x.cell(c), holes[c] ? 100 : PinAtlas.NONE);
        }
        Due.is("some dust there was", many > 3 ? 1 : 0, 1);
        Due.is("31 days", x.count(4), 31);
        Due.is("8 may be undone", x.count(8), 8);

        PinAtlas full = Due.of("3x3;p00;p01;p02;p10;p11;p12;p20");
        full.drift(40);
        Due.is("no hole where a pin is", full.count(5) <= 2 ? 1 : 0, 1);
        PinAtlas pulled = new PinAtlas();
        pulled.seed(dustSeed(12));
        pulled.pin(4, 2);
        Due.is("the dust is ahead of the day", pulled.drift(1), 1);
        Due.is("it pulls on that day", pulled.of(0, 1), 7);
        Due.is("undone with its day", pulled.undo(), 0);
        Due.is("no hole", pulled.count(5), 0);
        Due.is("the draw as ahead of it", pulled.seed(0), dustSeed(12));
        PinAtlas taken = new PinAtlas();
        taken.seed(dustSeed(12));
        taken.pin(0, 12);
        Due.is("a pin is there", taken.drift(1), 0);
    }

    /** A seed by which the first dust of a new cushion has a hole on a cell. */
    private static int dustSeed(int cell) {
        for (int s = 0; s < 1000000; s++) {
            long d = s * 1103515245L + 12345L & 0x7fffffffL;
            if (d / 65536 % 25 == cell && d / 128 % 3 == 0) {
                return s;
            }
        }
        return -1;
    }

    private static void undo() {
        PinAtlas x = Due.of("3x4;s10;p00;m23;o13;t01=3;t02=6");
        Due.is("none", x.undo(), PinAtlas.NONE);
        x.days(1);
        x.out(1);
        x.put(1, 8);
        x.cut(0);
        x.course(0, 1);
        x.drift(1);
        x.seed(5);
        Due.is("six", x.count(8), 6);
        Due.is("undo the drift's day", x.undo(), 5);
        Due.is("the draw, whatever was told since", x.seed(1), 1);
        Due.is("the day", x.count(4), 1);
        Due.is("undo the course", x.undo(), 4);
        Due.is("the course", x.of(0, 2), 3);
        Due.is("undo the cut", x.undo(), 3);
        Due.is("not cut", x.at(0, 3), 0);
        Due.is("undo the put", x.undo(), 2);
        Due.is("out", x.of(1, 1), PinAtlas.NONE);
        Due.is("its hole", x.cell(0), 100);
        Due.is("undo the out", x.undo(), 1);
        Due.is("in", x.of(1, 1), 0);
        Due.is("undo the day", x.undo(), 0);
        Due.is("the ship", x.of(0, 1), 4);
        Due.is("the mission", x.of(2, 1), 11);
        Due.is("the hole", x.cell(7), 100);
        Due.is("the day is 0", x.count(4), 0);
        Due.is("none is known", x.undo(), PinAtlas.NONE);
        x.days(1);
        x.seed(17);
        x.undo();
        Due.is("a plain day brings back the draw, too", x.seed(17), 1);
    }

    private static void lost() {
        PinAtlas x = Due.of("3x4;s10");
        x.days(11);
        Due.is("eight are known", x.count(8), 8);
        for (int k = 7; k >= 0; k--) {
            Due.is("undo", x.undo(), k);
        }
        Due.is("older ones are lost", x.undo(), PinAtlas.NONE);
        Due.is("day 3", x.count(4), 3);
        Due.is("its ship", x.of(0, 1), 7);
        x.days(5);
        x.undo();
        x.days(5);
        Due.is("eight again", x.count(8), 8);
        for (int k = 0; k < 8; k++) {
            x.undo();
        }
        Due.is("day 4", x.count(4), 4);
    }

    private static void seed() {
        PinAtlas x = new PinAtlas();
        Due.is("seed(0)", x.seed(0), 1);
        Due.is("seed(-1)", x.seed(-1), PinAtlas.BAD);
        Due.is("seed(MIN)", x.seed(Integer.MIN_VALUE), PinAtlas.BAD);
        Due.is("seed(MAX)", x.seed(Integer.MAX_VALUE), 0);
        Due.is("nothing to be undone by it", x.count(8), 0);
        x.drift(1);
        Due.is("31 bits", x.seed(0), (int) (2147483647L * 1103515245L + 12345L & 0x7fffffffL));
        x.drift(1);
        Due.is("from 0", x.seed(0), 12345);
    }
}
