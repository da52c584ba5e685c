/** Sheets: promises 33 to 38. */
final class SheetsEdges extends Edges {
    private static final String T = "Terms";
    private static final int[] BITS = {8, 16, 32, 64};

    static void look() {
        sheets();
        signs();
        feltTerms();
        feltKinds();
        felt();
        feltRefused();
        film();
        filmRefused();
        sheet();
        drop();
        item();
        itemBits();
        copy();
        copyRefused();
    }

    /** Whether item i is this cell: by a port that stands there. All but the sheets is as it was then. */
    private static boolean isCell(PinAtlas x, int sheet, int lane, int i, int cell) {
        x.image();
        x.cushion(7, 7);
        x.pin(0, cell);
        int courses = x.felt(0, sheet, lane, i, 1, 1);
        x.restore();
        return courses == 15;
    }

    private static void itemsAre(String what, PinAtlas x, int sheet, int lane, int... cells) {
        for (int i = 0; i < cells.length; i++) {
            Due.is(what + ", item " + i + ": whether it is " + cells[i], isCell(x, sheet, lane, i, cells[i]) ? 1 : 0, 1);
        }
    }

    private static void sheets() {
        Doc.asks(T, "3 sheets 0 .. 3: nothing (at first), or a row of a LANE: 0 bytes, 1 shorts, 2 ints, 3 longs");
        PinAtlas x = Due.of("3x3;p00");
        for (int s = 0; s <= 3; s++) {
            Due.is("nothing at first: drop", x.drop(s), NULL);
            Due.is("nothing at first: item", x.item(s, 0, 0, 0), NULL);
            Due.is("nothing at first: felt", x.felt(0, s, 0, 0, 1, 0), NULL);
            Due.is("nothing at first: film", x.film(0, 1, s, 0, 0), NULL);
            Due.is("nothing at first: copy", x.copy(s, 0, s, 0, 0), NULL);
        }
        for (int s = 0; s <= 3; s++) {
            for (int lane = 0; lane <= 3; lane++) {
                Due.is("a row", x.sheet(s, lane, 1), 1);
                for (int other = 0; other <= 3; other++) {
                    Due.is("as a row of lane " + other, x.item(s, other, 0, 0), other == lane ? 1 : CAST);
                }
            }
        }
        Doc.asks(T, "of 0 to 24 items.");
        PinAtlas y = Due.of("3x3;p00");
        takes("items", 0, 24, n -> n < 0 ? BAD : y.sheet(0, 0, n));
        y.sheet(0, 0, 0);
        Due.is("the first of none", y.item(0, 0, 0, 0), INDEX);
        y.sheet(0, 0, 24);
        Due.is("the last of 24", y.item(0, 0, 23, 0), 1);
        Due.is("behind it", y.item(0, 0, 24, 0), INDEX);
    }

    private static void signs() {
        Doc.asks(T, "(all with a sign), ");
        PinAtlas x = Due.of("7x7;p66");
        for (int lane = 0; lane <= 3; lane++) {
            x.sheet(lane, lane, 1);
            for (long v : new long[] {-1, -4, Long.MIN_VALUE + 48, 48 - (1L << BITS[lane] - 1), 48 + (1L << BITS[lane] - 1)}) {
                x.item(lane, lane, 0, v);
                Due.is("lane " + lane + ", " + v + " is below 0, no cell", x.felt(0, lane, lane, 0, 1, 1),
                    lane < 3 && v == Long.MIN_VALUE + 48 ? 15 : 0);
            }
            x.item(lane, lane, 0, 48);
            Due.is("lane " + lane + ", 48", x.felt(0, lane, lane, 0, 1, 1), 15);
        }
    }

    private static void feltTerms() {
        Doc.asks(T, "3 FELT: a row tells the CELLS on which a PIN is behind each of the next n DAYS (1 .. 8): ");
        int[] cells = {1, 2, 2, 1, 0, 0, 1, 2, 2};
        for (int n = 1; n <= 8; n++) {
            PinAtlas x = Due.of("3x3;s00");
            x.sheet(0, 0, 24);
            for (int i = 0; i < 9; i++) {
                x.item(0, 0, i, cells[i]);
                x.item(0, 0, 15 + i, cells[i]);
            }
            Due.is(n + " days", x.felt(0, 0, 0, 0, n, 1) & 8, 8);
            Due.is(n + " days, from item 15 on", x.felt(0, 0, 0, 15, n, 1) & 8, 8);
            Due.is(n + " days, from now: not so", x.felt(0, 0, 0, 1, n, 1) & 8, 0);
            x.item(0, 0, n - 1, 8);
            Due.is(n + " days, the last is another one", x.felt(0, 0, 0, 0, n, 1), 0);
            x.item(0, 0, n - 1, cells[n - 1]);
            x.item(0, 0, n, 8);
            Due.is(n + " days, the one behind it is not asked", x.felt(0, 0, 0, 0, n, 1) & 8, 8);
        }
    }

    private static void feltKinds() {
        Doc.asks(T, "KINDS (a set) of it by which it would be so; ");
        PinAtlas shut = Due.of("3x3;s11;p01;p10;p12;p21");
        holds(shut, 0, 0, 4, 4, 4, 4, 4, 4, 4, 4);
        Due.is("shut in: by all kinds", shut.felt(0, 0, 0, 0, 8, 0), 31);
        PinAtlas x = Due.of("5x5;p22u;o02");
        holds(x, 0, 0, 7);
        Due.is("up: by all but a port", x.felt(0, 0, 0, 0, 1, 0), 30);
        holds(x, 0, 0, 7, 7);
        Due.is("up and still: rusty", x.felt(0, 0, 0, 0, 2, 0), 4);
        holds(x, 0, 0, 12, 12);
        Due.is("still: a port", x.felt(0, 0, 0, 0, 2, 0), 1);
        holds(x, 0, 0, 7, 2, 7);
        Due.is("up, up, and down: a mission has no hole any more, others turn", x.felt(0, 0, 0, 0, 3, 0), 0);
        holds(x, 0, 0, 7, 2, 2, 7);
        Due.is("there and back: a ship", x.felt(0, 0, 0, 0, 4, 0), 2);
        holds(x, 0, 0, 7, 2, 2, 2);
        Due.is("there it stays: a needle, a mission", x.felt(0, 0, 0, 0, 4, 0), 24);
        holds(x, 0, 0, 0);
        Due.is("by none", x.felt(0, 0, 0, 0, 1, 0), 0);
        Due.is("it is of its kind still", x.of(0, 0), 0);
        Doc.asks(T, "COURSES (0 .. 3, a set) by which it would be.");
        Due.is("shut in: by all courses", shut.felt(0, 0, 0, 0, 8, 1), 15);
        int[] to = {7, 17, 11, 13};
        PinAtlas ship = Due.of("5x5;s22");
        for (int v = 0; v < 4; v++) {
            holds(ship, 0, 0, to[v]);
            Due.is("by one", ship.felt(0, 0, 0, 0, 1, 1), 1 << v);
        }
        holds(ship, 0, 0, 12);
        Due.is("by none: it would go", ship.felt(0, 0, 0, 0, 1, 1), 0);
        Due.is("it is on its course still", ship.of(0, 2), 3);
        PinAtlas needle = Due.of("5x5;n22d");
        holds(needle, 0, 0, 7);
        Due.is("a needle, by all courses", needle.felt(0, 0, 0, 0, 1, 1), 15);
        PinAtlas edge = Due.of("3x3;s00u");
        holds(edge, 0, 0, 0, 1);
        Due.is("from an edge, turned", edge.felt(0, 0, 0, 0, 2, 1), 4);
        holds(edge, 0, 0, 0, 3);
        Due.is("from the other edge, turned", edge.felt(0, 0, 0, 0, 2, 1), 1);
    }

    private static void felt() {
        Doc.asks("Promise 33", "FELT of a PIN by n items of a SHEET taken as a row of a LANE, from item i on: KINDS (what 0), COURSES (1). ");
        PinAtlas x = Due.of("3x3;p00;p01;p02;p10;p11;p12;p22");
        for (int lane = 0; lane <= 3; lane++) {
            holds(x, lane, lane, 0, 8, 8, 8, 8, 8, 8, 8, 8, 0);
            Due.is("the last pin, 8 items from 1 on", x.felt(6, lane, lane, 1, 8, 1), 15);
            Due.is("8 items from 0 on", x.felt(6, lane, lane, 0, 8, 1), 0);
            Due.is("8 items from 2 on", x.felt(6, lane, lane, 2, 8, 1), 0);
            Due.is("7 items from 2 on", x.felt(6, lane, lane, 2, 7, 1), 15);
            Due.is("the first pin, the first item", x.felt(0, lane, lane, 0, 1, 1), 15);
            Due.is("the first pin, the last item", x.felt(0, lane, lane, 9, 1, 1), 15);
        }
        String seen = State.seen(x);
        x.felt(6, 0, 0, 1, 8, 0);
        Due.same("nothing is changed", State.seen(x), seen);
        holds(x, 3, 3, 8L + (1L << 32), 8L + (1L << 63));
        Due.is("a long is no int", x.felt(6, 3, 3, 0, 1, 1), 0);
        Due.is("a long below 0", x.felt(6, 3, 3, 1, 1, 1), 0);
    }

    private static void feltRefused() {
        PinAtlas x = Due.of("3x3;p00;p01");
        holds(x, 0, 2, 0, 0, 0, 0, 0, 0, 0, 0, 0);
        x.out(1);
        Doc.asks("Promise 33", "BAD; ");
        takes("items", 1, 8, n -> x.felt(0, 0, 2, 0, n, 0));
        takes("what", 0, 1, w -> x.felt(0, 0, 2, 0, 1, w));
        takes("a pin", 0, 1, p -> x.felt(p, 0, 2, 0, 1, 0));
        takes("a sheet", 0, 3, s -> x.felt(0, s, 2, 0, 1, 0));
        takes("a lane", 0, 3, l -> x.felt(0, 0, l, 0, 1, 0));
        Doc.asks("Promise 33", "NULL; ");
        Due.is("nothing", x.felt(0, 3, 2, 0, 1, 0), NULL);
        Doc.asks("Promise 33", "CAST; ");
        for (int lane : new int[] {0, 1, 3}) {
            Due.is("of lane " + lane, x.felt(0, 0, lane, 0, 1, 0), CAST);
        }
        Doc.asks("Promise 33", "INDEX; ");
        for (int i = 0; i <= 9; i++) {
            for (int n = 1; n <= 8; n++) {
                Due.is("from " + i + ", items " + n, x.felt(0, 0, 2, i, n, 1), i + n <= 9 ? 15 : INDEX);
            }
        }
        for (int odd : new int[] {-1, 9, 10, MIN, MAX, MAX - 7}) {
            Due.is("from " + odd, x.felt(0, 0, 2, odd, 8, 0), INDEX);
        }
        Doc.asks("Promise 33", "NOT: it is OUT.");
        Due.is("out", x.felt(1, 0, 2, 0, 1, 0), NOT);
        Due.is("out, the last items", x.felt(1, 0, 2, 1, 8, 1), NOT);
        Due.is("out, too many", x.felt(1, 0, 2, 2, 8, 1), INDEX);
    }

    private static void film() {
        Doc.asks("Promise 34", "The CELL of a PIN (-4: OUT) behind 1, 2, .. n DAYS (1 .. 24), an item each, comes to a SHEET likewise: n. ");
        int[] cells = {1, 2, 2, 1, 0, 0};
        for (int lane = 0; lane <= 3; lane++) {
            PinAtlas x = Due.of("3x3;s00;p22");
            x.sheet(lane, lane, 24);
            Due.is("24 days", x.film(0, 24, lane, lane, 0), 24);
            int[] want = new int[24];
            for (int i = 0; i < 24; i++) {
                want[i] = cells[i % 6];
            }
            itemsAre("lane " + lane, x, lane, lane, want);
            Due.is("1 day, to the last item", x.film(1, 1, lane, lane, 23), 1);
            Due.is("1 day, to the first item", x.film(1, 1, lane, lane, 0), 1);
            want[0] = 8;
            want[23] = 8;
            itemsAre("lane " + lane + ", its ends", x, lane, lane, want);
            Due.is("nothing else is changed", x.count(4) + x.count(8), 0);
        }
        PinAtlas out = Due.of("7x7;p66;s00");
        out.out(1);
        for (int lane = 0; lane <= 3; lane++) {
            out.sheet(lane, lane, 1);
            Due.is("out: filmed all the same", out.film(1, 1, lane, lane, 0), 1);
            boolean isAny = false;
            for (int c = 0; c < 49; c += 12) {
                isAny |= isCell(out, lane, lane, 0, c);
            }
            Due.is("out: on no cell", isAny ? 1 : 0, 0);
        }
        PinAtlas last = Due.of("7x7;p66");
        last.sheet(0, 0, 1);
        last.film(0, 1, 0, 0, 0);
        itemsAre("the last cell in a byte", last, 0, 0, 48);
    }

    private static void filmRefused() {
        PinAtlas x = Due.of("3x3;s00");
        x.sheet(0, 1, 24);
        Doc.asks("Promise 34", "BAD; ");
        takes("days", 1, 24, n -> x.film(0, n, 0, 1, 0));
        takes("a pin", 0, 0, p -> x.film(p, 1, 0, 1, 0));
        takes("a sheet", 0, 3, s -> x.film(0, 1, s, 1, 0));
        takes("a lane", 0, 3, l -> x.film(0, 1, 0, l, 0));
        Doc.asks("Promise 34", "NULL; ");
        Due.is("nothing", x.film(0, 1, 3, 1, 0), NULL);
        Doc.asks("Promise 34", "CAST; ");
        for (int lane : new int[] {0, 2, 3}) {
            Due.is("of lane " + lane, x.film(0, 1, 0, lane, 0), CAST);
        }
        Doc.asks("Promise 34", "INDEX.");
        x.sheet(0, 1, 5);
        for (int i = 0; i <= 5; i++) {
            for (int n = 1; n <= 7; n++) {
                Due.is("to " + i + ", items " + n, x.film(0, n, 0, 1, i), i + n <= 5 ? n : INDEX);
            }
        }
        for (int odd : new int[] {-1, 5, 6, MIN, MAX, MAX - 23}) {
            Due.is("to " + odd, x.film(0, 24, 0, 1, odd), INDEX);
        }
    }

    private static void sheet() {
        Doc.asks("Promise 35", "A SHEET holds a new row of a LANE: n. ");
        PinAtlas x = Due.of("3x3;p00;p11");
        for (int n = 0; n <= 24; n++) {
            Due.is("of " + n, x.sheet(3, 3, n), n);
            Due.is("how many", x.drop(3), n);
        }
        holds(x, 0, 0, 4, 4, 4);
        Due.is("a row again", x.sheet(0, 0, 3), 3);
        itemsAre("it is new, all 0", x, 0, 0, 0, 0, 0);
        holds(x, 0, 0, 4, 4, 4);
        x.sheet(0, 3, 2);
        itemsAre("of another lane", x, 0, 3, 0, 0);
        x.drop(0);
        x.sheet(0, 3, 3);
        itemsAre("behind nothing", x, 0, 3, 0, 0, 0);
        Doc.asks("Promise 35", "BAD: also n above 24; ");
        for (int odd : new int[] {25, 26, MAX}) {
            Due.is("of " + odd, x.sheet(0, 0, odd), BAD);
        }
        for (int odd : new int[] {-1, 4, MIN, MAX}) {
            Due.is("sheet " + odd, x.sheet(odd, 0, 1), BAD);
            Due.is("lane " + odd, x.sheet(0, odd, 1), BAD);
        }
        Doc.asks("Promise 35", "SIZE: n below 0.");
        for (int odd : new int[] {-1, -2, MIN}) {
            Due.is("of " + odd, x.sheet(0, 0, odd), SIZE);
        }
        Due.is("it holds what it held", x.drop(0), 3);
    }

    private static void drop() {
        Doc.asks("Promise 36", "A SHEET holds nothing: how many items it had. BAD; NULL.");
        PinAtlas x = new PinAtlas();
        x.sheet(0, 0, 0);
        x.sheet(3, 3, 24);
        Due.is("of none: it is a row", x.drop(0), 0);
        Due.is("of none, again", x.drop(0), NULL);
        Due.is("of 24", x.drop(3), 24);
        Due.is("of 24, again", x.drop(3), NULL);
        Due.is("never one", x.drop(1), NULL);
        for (int odd : new int[] {-1, 4, MIN, MAX}) {
            Due.is("sheet " + odd, x.drop(odd), BAD);
        }
    }

    private static void item() {
        PinAtlas x = Due.of("7x7;p00");
        x.sheet(1, 2, 24);
        Doc.asks("Promise 37", "Item i of a SHEET, taken as a row of a LANE, becomes v, ");
        int[] want = new int[24];
        for (int i = 0; i < 24; i++) {
            want[i] = 48 - i;
            Due.is("item " + i, x.item(1, 2, i, 48 - i), 1);
        }
        itemsAre("each its own", x, 1, 2, want);
        Doc.asks("Promise 37", "BAD; ");
        takes("a sheet", 0, 3, s -> x.item(s, 2, 0, 0));
        takes("a lane", 0, 3, l -> x.item(1, l, 0, 0));
        Doc.asks("Promise 37", "NULL; ");
        Due.is("nothing", x.item(0, 2, 0, 0), NULL);
        Doc.asks("Promise 37", "CAST; ");
        for (int lane : new int[] {0, 1, 3}) {
            Due.is("of lane " + lane, x.item(1, lane, 0, 0), CAST);
        }
        Doc.asks("Promise 37", "INDEX.");
        for (int odd : new int[] {-1, 24, 25, MIN, MAX}) {
            Due.is("item " + odd, x.item(1, 2, odd, 0), INDEX);
        }
        x.sheet(1, 2, 0);
        Due.is("the first of none", x.item(1, 2, 0, 0), INDEX);
    }

    private static void itemBits() {
        Doc.asks("Promise 37", "its lowest bits: 1. ");
        PinAtlas x = Due.of("7x7;p66");
        for (int lane = 0; lane <= 3; lane++) {
            x.sheet(lane, lane, 1);
            for (int b = 6; b < 64; b++) {
                Due.is("a bit more", x.item(lane, lane, 0, 48 ^ 1L << b), 1);
                Due.is("lane " + lane + ", bit " + b, x.felt(0, lane, lane, 0, 1, 1), b >= BITS[lane] ? 15 : 0);
            }
        }
        for (int lane = 0; lane < 3; lane++) {
            x.item(lane, lane, 0, -(1L << BITS[lane]) + 48);
            Due.is("lane " + lane + ", wrapped round from below", x.felt(0, lane, lane, 0, 1, 1), 15);
            x.item(lane, lane, 0, Long.MAX_VALUE - (1L << BITS[lane]) + 49);
            Due.is("lane " + lane + ", wrapped round from above", x.felt(0, lane, lane, 0, 1, 1), 15);
        }
    }

    private static void copied(int i, int j, int n) {
        PinAtlas x = Due.of("3x3;p00");
        int[] want = {1, 2, 3, 4, 5, 6};
        for (int lane = 0; lane <= 3; lane += 3) {
            holds(x, lane, lane, 1, 2, 3, 4, 5, 6);
            Due.is("from " + i + " to " + j + ", items " + n, x.copy(lane, i, lane, j, n), n);
        }
        int[] taken = want.clone();
        for (int k = 0; k < n; k++) {
            want[j + k] = taken[i + k];
        }
        itemsAre("from " + i + " to " + j + ", " + n + " of them", x, 0, 0, want);
        itemsAre("from " + i + " to " + j + ", " + n + " longs", x, 3, 3, want);
    }

    private static void copy() {
        Doc.asks("Promise 38", "n items of a SHEET from i on come to another one (or the same) from j on, as if all were taken ahead: n. ");
        for (int i = 0; i <= 6; i++) {
            for (int j = 0; j <= 6; j++) {
                copied(i, j, 0);
                if (i < 6 && j < 6) {
                    copied(i, j, 6 - Math.max(i, j));
                }
            }
        }
        PinAtlas x = Due.of("3x3;p00");
        x.sheet(0, 2, 24);
        x.sheet(1, 2, 24);
        for (int i = 0; i < 24; i++) {
            x.item(0, 2, i, i);
        }
        Due.is("all 24", x.copy(0, 0, 1, 0, 24), 24);
        int[] want = new int[24];
        for (int i = 0; i < 24; i++) {
            want[i] = i;
        }
        itemsAre("another one's", x, 1, 2, want);
        Due.is("the last one to the first", x.copy(0, 23, 1, 0, 1), 1);
        want[0] = 23;
        itemsAre("another one's first", x, 1, 2, want);
        Due.is("the first one to the last", x.copy(0, 0, 1, 23, 1), 1);
        x.drop(0);
        want[23] = 0;
        itemsAre("they are its own", x, 1, 2, want);
    }

    private static void copyRefused() {
        PinAtlas x = Due.of("3x3;p00");
        holds(x, 0, 1, 1, 2, 3, 4, 5);
        holds(x, 1, 1, 6, 7, 8);
        x.sheet(2, 2, 5);
        Doc.asks("Promise 38", "BAD; ");
        takes("from", 0, 3, s -> x.copy(s, 0, 0, 0, 0));
        takes("to", 0, 3, s -> x.copy(0, 0, s, 0, 0));
        Due.is("more than any sheet has: no BAD", x.copy(0, 0, 1, 0, 25), INDEX);
        Doc.asks("Promise 38", "NULL (either); ");
        Due.is("from nothing", x.copy(3, 0, 0, 0, 1), NULL);
        Due.is("to nothing", x.copy(0, 0, 3, 0, 1), NULL);
        Due.is("from nothing to nothing", x.copy(3, 0, 3, 0, 0), NULL);
        Doc.asks("Promise 38", "CAST: of unlike LANES; ");
        Due.is("of shorts to ints", x.copy(0, 0, 2, 0, 1), CAST);
        Due.is("of ints to shorts", x.copy(2, 0, 0, 0, 1), CAST);
        Due.is("no item of them", x.copy(2, 0, 0, 0, 0), CAST);
        Doc.asks("Promise 38", "INDEX (n below 0, too).");
        for (int i = -1; i <= 6; i++) {
            for (int j = -1; j <= 4; j++) {
                for (int n = -1; n <= 6; n++) {
                    boolean may = i >= 0 && j >= 0 && n >= 0 && i + n <= 5 && j + n <= 3;
                    if (!may) {
                        Due.is("from " + i + " to " + j + ", items " + n, x.copy(0, i, 1, j, n), INDEX);
                    }
                }
            }
        }
        for (int odd : new int[] {MIN, MIN + 1, MAX, MAX - 1}) {
            Due.is("items " + odd, x.copy(0, 0, 1, 0, odd), INDEX);
            Due.is("items " + odd + " from 1 to 1", x.copy(0, 1, 1, 1, odd), INDEX);
            Due.is("from " + odd, x.copy(0, odd, 1, 0, 3), INDEX);
            Due.is("to " + odd, x.copy(0, 0, 1, odd, 3), INDEX);
            Due.is("from, to, items " + odd, x.copy(0, odd, 1, odd, odd), INDEX);
        }
        itemsAre("nothing is changed", x, 1, 1, 6, 7, 8);
        Due.is("the last items", x.copy(0, 2, 1, 0, 3), 3);
        itemsAre("they are", x, 1, 1, 3, 4, 5);
    }
}
