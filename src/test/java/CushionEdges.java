/** The cushion: its cells, pins, threads, and promises 1 to 7 and 10. */
final class CushionEdges extends Edges {
    private static final String T = "Terms";

    static void look() {
        newObject();
        sides();
        numbered();
        holes();
        pins();
        onACell();
        courses();
        threads();
        far();
        hold();
        mayGo();
        mayGoByThreads();
        cushion();
        pin();
        thread();
        of();
        at();
        cell();
        count();
    }

    private static void newObject() {
        Doc.asks("Promise 1", "A cushion, no pins.");
        PinAtlas x = new PinAtlas();
        Due.same("a new object", State.seen(x), State.seen(Due.of("5x5")));
        Due.is("no pins", x.count(2), 0);
        Due.is("pin 0", x.of(0, 0), BAD);
        Due.is("thread 0", x.at(0, 0), BAD);
        noPins();
        Doc.asks(T, "It is DAY 0 at first.");
        Due.is("the day", x.count(4), 0);
        x.days(1);
        Due.is("a day later", x.count(4), 1);
        Due.is("another object", new PinAtlas().count(4), 0);
    }

    /** Each call of a PIN, a THREAD: there is none. What is of none of them is answered. */
    private static void noPins() {
        Call[] calls = {x -> x.of(0, 1), x -> x.at(0, 0), x -> x.out(0), x -> x.put(0, 0), x -> x.cut(0), x -> x.course(0, 0),
            x -> x.thread(0, 1, 1), x -> x.ahead(0, 0), x -> x.comes(0, 0), x -> x.side(0, 1), x -> x.hole(0, 0, 0),
            x -> x.cuts(0, 0, 0), x -> x.place(0, 0, 0), x -> x.bound(0), x -> x.between(0, 1), x -> x.breaks(0, 0, 0, 0, 0),
            x -> x.felt(0, 0, 0, 0, 1, 0), x -> x.film(0, 1, 0, 0, 0)};
        for (int k = 0; k < calls.length; k++) {
            refuses("of no pin, call " + k, BAD, PinAtlas::new, calls[k]);
        }
        PinAtlas x = new PinAtlas();
        Due.is("nobody is alone", x.which(0), 0);
        Due.is("nothing is taut", x.which(1), 0);
        Due.is("nobody is out", x.count(6), 0);
        Due.is("nothing holds", x.count(7), 0);
        Due.is("no hole will be", x.holes(60), 0);
        Due.is("no hole is near", x.nearest(12, 0), NONE);
        Due.is("days go by", x.days(40), 0);
        Due.is("none may be restored", x.restore(), NONE);
    }

    private static void sides() {
        Doc.asks(T, "1 THE CUSHION has ROWS, COLUMNS (3 .. 7 each; 5 and 5 at first) of CELLS, ");
        PinAtlas x = new PinAtlas();
        Due.is("rows at first", x.count(0), 5);
        Due.is("columns at first", x.count(1), 5);
        Due.is("its last cell", x.cell(24), NONE);
        Due.is("behind its last cell", x.cell(25), BAD);
        takes("rows", 3, 7, v -> x.cushion(v, 5));
        takes("columns", 3, 7, v -> x.cushion(5, v));
        Due.is("the least", x.cushion(3, 3), 9);
        Due.is("the least one's last cell", x.cell(8), NONE);
        Due.is("behind the least one's last cell", x.cell(9), BAD);
        Due.is("the greatest", x.cushion(7, 7), 49);
        Due.is("the greatest one's last cell", x.cell(48), NONE);
        Due.is("behind the greatest one's last cell", x.cell(49), BAD);
        Due.is("few rows", x.cushion(3, 7), 21);
        Due.is("behind few rows' last cell", x.cell(21), BAD);
        Due.is("few columns", x.cushion(7, 3), 21);
        Due.is("behind few columns' last cell", x.cell(21), BAD);
    }

    /** Each cell of each cushion, told by its row and column, has its number; at an edge nothing is beside it. */
    private static void numbered() {
        Doc.asks(T, "numbered along ROWS from 0 on, the highest ROW first; ");
        for (int rows = 3; rows <= 7; rows++) {
            for (int columns = 3; columns <= 7; columns++) {
                for (int c = 0; c < rows * columns; c++) {
                    int row = c / columns;
                    int column = c % columns;
                    PinAtlas x = Due.of(rows + "x" + columns + ";s" + row + column);
                    String what = rows + " x " + columns + ", row " + row + ", column " + column;
                    Due.is(what, x.of(0, 1), c);
                    int ways = (row > 0 ? 1 : 0) + (row < rows - 1 ? 2 : 0) + (column > 0 ? 4 : 0) + (column < columns - 1 ? 8 : 0);
                    Due.is(what + ", where it may go", x.of(0, 3), ways);
                }
            }
        }
    }

    private static void holes() {
        Doc.asks(T, "a CELL has a HOLE or none (none at first). ");
        PinAtlas x = new PinAtlas();
        x.cushion(7, 7);
        for (int c = 0; c < 49; c++) {
            Due.is("cell " + c + " at first", x.cell(c), NONE);
        }
        Due.is("no hole at first", x.count(5), 0);
        // A hole to each cell that it can be on: the first, the last, and all.
        PinAtlas y = Due.of("3x3;o00;o01;o02;o10;o11;o12;o20;o21;o22");
        Due.is("a hole to each cell", y.count(5), 9);
        Due.is("the first cell's", y.cell(0), 100);
        Due.is("the last cell's", y.cell(8), 100);
        PinAtlas z = Due.of("7x7;p00;p66");
        z.out(0);
        z.out(1);
        Due.is("cell 0", z.cell(0), 100);
        Due.is("cell 48", z.cell(48), 100);
        Due.is("a hole on cell 48 and one on cell 0 alone", z.count(5), 2);
        Due.is("cell 16 (48 less 32)", z.cell(16), NONE);
        Due.is("cell 32", z.cell(32), NONE);
    }

    private static void pins() {
        Doc.asks(T, "PINS 0 .. 6, as they come, ");
        PinAtlas x = new PinAtlas();
        for (int p = 0; p < 7; p++) {
            Due.is("pin " + p + " is not there yet", x.of(p, 0), BAD);
            Due.is("it comes", x.pin(p % 5, 24 - p), p);
            Due.is("it is there", x.of(p, 1), 24 - p);
            Due.is("none comes by what is refused", x.pin(0, 24 - p), NOT);
        }
        Due.is("pin 7", x.of(7, 0), BAD);
        Due.is("it does not come", x.pin(0, 0), FULL);
        x.out(6);
        Due.is("nor for one that is out", x.pin(0, 0), FULL);
        Due.is("seven there are", x.count(2), 7);
    }

    private static void onACell() {
        Doc.asks(T, "are of a KIND, on a CELL (no two on one; none on a HOLE), or OUT; ");
        PinAtlas x = Due.of("3x3;p00;o22");
        Due.is("two on one", x.pin(1, 0), NOT);
        Due.is("on a hole", x.pin(1, 8), NOT);
        takes("a kind", 0, 4, k -> x.pin(k, 1 + k));
        for (int k = 0; k <= 4; k++) {
            Due.is("kind " + k, x.of(1 + k, 0), k);
        }
        Due.is("on a cell", x.of(5, 1), 5);
        x.out(5);
        Due.is("or out", x.of(5, 1), NONE);
        Due.is("where it was a hole is, none comes there", x.cell(5), 100);
        Due.is("none may be put on a pin's cell", x.put(5, 0), NOT);
        Due.is("it may be put on a hole", x.put(5, 8), 1);
    }

    private static void courses() {
        Doc.asks(T, "have a COURSE: 0 up, 1 down, 2 to the left, 3 to the right (3 at first). ");
        int[] to = {7, 17, 11, 13};
        for (int v = 0; v <= 3; v++) {
            PinAtlas x = new PinAtlas();
            x.pin(1, 12);
            Due.is("the course at first", x.of(0, 2), 3);
            x.course(0, v);
            x.days(1);
            Due.is("by course " + v, x.of(0, 1), to[v]);
        }
    }

    private static void threads() {
        Doc.asks(T, "THREADS 0 .. 5, as they come, join two PINS (not the same one), are LONG by 1 .. 12, or CUT. ");
        PinAtlas x = Due.of("3x3;p00;p01;p02");
        for (int t = 0; t < 6; t++) {
            Due.is("thread " + t + " is not there yet", x.at(t, 2), BAD);
            Due.is("none comes from a pin to itself", x.thread(1, 1, 1), BAD);
            Due.is("it comes", x.thread(t % 3, (t + 1) % 3, t + 1), t);
            Due.is("it is there", x.at(t, 2), t + 1);
        }
        Due.is("thread 6", x.at(6, 2), BAD);
        Due.is("it does not come", x.thread(0, 1, 1), FULL);
        x.cut(5);
        Due.is("nor for one that is cut", x.thread(0, 1, 1), FULL);
        Due.is("six there are", x.count(3), 6);
        for (int least : new int[] {1, 7}) {
            PinAtlas y = Due.of("3x3;p00;p01");
            for (int n = 0; n < 6; n++) {
                y.thread(0, 1, least + n);
                Due.is("so long", y.at(n, 2), least + n);
            }
        }
        PinAtlas z = Due.of("3x3;p00;p01");
        for (int n : new int[] {0, 13, -1, 14, MIN, MAX}) {
            Due.is("long by " + n, z.thread(0, 1, n), BAD);
        }
        Due.is("long by 1", z.thread(0, 1, 1), 0);
        Due.is("long by 12", z.thread(0, 1, 12), 1);
    }

    /** Each cell's way to each hole; the end of a row is not beside the next one's beginning. */
    private static void far() {
        Doc.asks(T, "FAR are two CELLS by as many ROWS and COLUMNS as are between them, added. ");
        for (int columns : new int[] {3, 7}) {
            for (int hole = 0; hole < 7 * columns; hole++) {
                PinAtlas x = Due.of("7x" + columns + ";o" + hole / columns + hole % columns);
                for (int c = 0; c < 7 * columns; c++) {
                    int rows = Math.abs(c / columns - hole / columns);
                    int between = rows + Math.abs(c % columns - hole % columns);
                    Due.is("of " + columns + " columns, " + c + " and " + hole, x.nearest(c, 1), between);
                }
            }
        }
        PinAtlas row = Due.of("5x5;p04;p10;p14;t01=4;t01=5;t02=1");
        Due.is("cells 4 and 5 are not beside one another", row.side(0, 1), NONE);
        Due.is("they are not far by 4", row.at(0, 4), 0);
        Due.is("they are far by 5", row.at(1, 4), 1);
        Due.is("cells 4 and 9 are beside one another", row.side(0, 2), 0);
        PinAtlas corners = Due.of("7x7;p00;p66;t01=11;t01=12");
        Due.is("the corners are not far by 11", corners.at(0, 4), 0);
        Due.is("they are far by 12", corners.at(1, 4), 1);
    }

    private static void hold() {
        Doc.asks(T, "A THREAD that is not CUT HOLDS, if neither of its PINS is OUT and they are FAR by no more than it is LONG. ");
        for (int far = 1; far <= 12; far++) {
            int cell = far <= 6 ? far : 6 + 7 * (far - 6);
            for (int n = 1; n <= 12; n++) {
                PinAtlas x = new PinAtlas();
                x.cushion(7, 7);
                x.pin(0, 0);
                x.pin(0, cell);
                x.thread(0, 1, n);
                Due.is("far by " + far + ", long by " + n, x.at(0, 4), far <= n ? 1 : 0);
                Due.is("the set of it", x.count(7), far <= n ? 1 : 0);
            }
        }
        PinAtlas x = Due.of("3x3;p00;p01;t01=1;t01=1");
        x.cut(0);
        Due.is("one is cut", x.count(7), 2);
        for (int p = 0; p < 2; p++) {
            x.out(p);
            Due.is("pin " + p + " is out", x.count(7), 0);
            x.put(p, p);
            Due.is("pin " + p + " is put", x.count(7), 2);
        }
        x.out(0);
        x.out(1);
        Due.is("both are out", x.count(7), 0);
        x.put(0, 0);
        x.put(1, 8);
        Due.is("too far", x.count(7), 0);
        // However long it is, on whichever CELL the other one is: one that is OUT is not FAR by any number.
        for (int columns = 3; columns <= 7; columns++) {
            for (int c = 0; c < 3 * columns; c++) {
                PinAtlas y = new PinAtlas();
                y.cushion(3, columns);
                y.pin(0, c);
                y.pin(0, (c + 1) % (3 * columns));
                y.thread(0, 1, 12);
                y.out(1);
                Due.is("the greater one is out", y.at(0, 4), 0);
                y.put(1, (c + 1) % (3 * columns));
                y.out(0);
                Due.is("the lesser one is out", y.at(0, 4), 0);
            }
        }
    }

    private static void mayGo() {
        Doc.asks(T, "A PIN MAY GO to a CELL, if it is one, no PIN is on it, ");
        PinAtlas x = Due.of("3x3;s11");
        Due.is("in the midst", x.of(0, 3), 15);
        PinAtlas up = Due.of("3x3;s11;p01");
        Due.is("a pin above it", up.of(0, 3), 14);
        PinAtlas down = Due.of("3x3;s11;p21");
        Due.is("a pin below it", down.of(0, 3), 13);
        PinAtlas left = Due.of("3x3;s11;p10");
        Due.is("a pin to the left of it", left.of(0, 3), 11);
        PinAtlas right = Due.of("3x3;s11;p12");
        Due.is("a pin to the right of it", right.of(0, 3), 7);
        PinAtlas all = Due.of("3x3;s11;p01;p10;p12;p21");
        Due.is("pins all round it", all.of(0, 3), 0);
        all.out(1);
        Due.is("one is out, its hole is no pin", all.of(0, 3), 1);
        Due.is("a port may go, though it does not", all.of(2, 3), 3);
        PinAtlas aslant = Due.of("3x3;s11;p00;p02;p20;p22");
        Due.is("pins aslant are not in its way", aslant.of(0, 3), 15);
    }

    private static void mayGoByThreads() {
        Doc.asks(T, "and no THREAD of it that HOLDS would not HOLD then. ");
        PinAtlas x = Due.of("7x7;s33;p30;t01=3");
        Due.is("just as long as it is far: nearer alone", x.of(0, 3), 4);
        x.cut(0);
        Due.is("cut, it binds nobody", x.of(0, 3), 15);
        PinAtlas longer = Due.of("7x7;s33;p30;t10=4");
        Due.is("longer by 1: each way", longer.of(0, 3), 15);
        PinAtlas shorter = Due.of("7x7;s33;p30;t01=2");
        Due.is("shorter by 1, it does not hold: each way", shorter.of(0, 3), 15);
        PinAtlas two = Due.of("7x7;s33;p30;p36;t01=3;t20=3");
        Due.is("two of them, it stays where it is", two.of(0, 3), 0);
        two.out(2);
        Due.is("one's pin is out", two.of(0, 3), 4);
        PinAtlas others = Due.of("7x7;s33;p32;p31;t12=1");
        Due.is("other pins' threads bind it not", others.of(0, 3), 11);
        PinAtlas both = Due.of("7x7;s33;p30;t01=12;t01=3");
        Due.is("a long one and a short one", both.of(0, 3), 4);
        PinAtlas greatest = Due.of("7x7;s61;p06;t01=11");
        Due.is("nearer by a row or a column", greatest.of(0, 3), 9);
    }

    private static void cushion() {
        Doc.asks("Promise 2", "A CUSHION of so many ROWS, COLUMNS, nothing on it, DAY 0: how many CELLS. BAD.");
        PinAtlas x = full();
        int draw = State.draw(x);
        Due.is("cushion(4, 7)", x.cushion(4, 7), 28);
        Due.same("it is empty", State.seen(x).replaceAll("draw.*", ""), State.seen(Due.of("4x7")).replaceAll("draw.*", ""));
        Due.is("the draw stays", State.draw(x), draw);
        Due.is("nothing may be undone", x.undo(), NONE);
        x.pin(0, 27);
        x.pin(0, 0);
        Due.is("its first thread", x.thread(1, 0, 12), 0);
        Due.is("it is not cut, as one of that number was", x.at(0, 3), 0);
        Due.is("its second thread", x.thread(1, 0, 9), 1);
        Due.is("nor is it", x.at(1, 3), 0);
        Due.is("it holds", x.count(7), 3);
        Due.is("the same again", x.cushion(4, 7), 28);
        Due.is("pins are gone", x.count(2), 0);
        Due.is("cell 27 is free", x.cell(27), NONE);
        Due.is("rows 2", x.cushion(2, 7), BAD);
        Due.is("rows 8", x.cushion(8, 7), BAD);
        Due.is("columns 2", x.cushion(7, 2), BAD);
        Due.is("columns 8", x.cushion(7, 8), BAD);
        Due.is("it is as it was", x.count(0) * 10 + x.count(1), 47);
    }

    private static void pin() {
        Doc.asks("Promise 3", "A PIN on a CELL: its number. BAD; ");
        PinAtlas x = Due.of("3x7");
        for (int c : new int[] {-1, -4, 21, MIN, MAX}) {
            Due.is("cell " + c, x.pin(0, c), BAD);
        }
        for (int k : new int[] {-1, 5, MIN, MAX}) {
            Due.is("kind " + k, x.pin(k, 0), BAD);
        }
        Due.is("the last cell, the greatest kind", x.pin(4, 20), 0);
        Due.is("the first cell, the least kind", x.pin(0, 0), 1);
        Doc.asks("Promise 3", "NOT: a PIN, a HOLE is there; ");
        Due.is("a pin on the first cell", x.pin(0, 0), NOT);
        Due.is("a pin on the last cell", x.pin(0, 20), NOT);
        x.out(0);
        Due.is("a hole on the last cell", x.pin(0, 20), NOT);
        x.put(0, 20);
        Due.is("the pin again", x.pin(0, 20), NOT);
        x.out(0);
        x.put(0, 19);
        Due.is("the hole again", x.pin(0, 20), NOT);
        Doc.asks("Promise 3", "FULL: 7.");
        for (int p = 2; p < 7; p++) {
            Due.is("pin " + p, x.pin(0, p), p);
        }
        Due.is("one more", x.pin(0, 7), FULL);
        x.cushion(3, 7);
        Due.is("on a new cushion", x.pin(0, 7), 0);
    }

    private static void thread() {
        Doc.asks("Promise 4", "A THREAD: its number. ");
        PinAtlas x = sevenPins();
        Due.is("from the last pin to the first", x.thread(6, 0, 12), 0);
        Doc.asks("Promise 4", "BAD: alike, too; ");
        int[][] bad = {{0, 0}, {6, 6}, {-1, 0}, {0, -1}, {7, 0}, {0, 7}, {MIN, MIN}, {MAX, MAX}, {-1, -1}, {7, 7}};
        for (int[] b : bad) {
            Due.is("pins " + b[0] + ", " + b[1], x.thread(b[0], b[1], 1), BAD);
        }
        Due.is("the thread is one alone", x.count(3), 1);
        Doc.asks("Promise 4", "FULL: 6.");
        for (int t = 1; t < 6; t++) {
            Due.is("thread " + t, x.thread(1, 2, 1), t);
        }
        Due.is("one more", x.thread(1, 2, 1), FULL);
        Due.is("six there are", x.count(3), 6);
        x.cushion(3, 3);
        x.pin(0, 0);
        x.pin(0, 1);
        Due.is("on a new cushion", x.thread(0, 1, 1), 0);
    }

    private static void of() {
        Doc.asks("Promise 5", "Of a PIN: 0 KIND, 1 CELL (NONE: OUT), 2 COURSE, ");
        PinAtlas x = Due.of("7x7;m66u;p00");
        Due.is("the greatest kind", x.of(0, 0), 4);
        Due.is("the least kind", x.of(1, 0), 0);
        Due.is("the last cell", x.of(0, 1), 48);
        Due.is("the first cell", x.of(1, 1), 0);
        Due.is("the least course", x.of(0, 2), 0);
        Due.is("the greatest course", x.of(1, 2), 3);
        x.out(1);
        Due.is("out", x.of(1, 1), NONE);
        Doc.asks("Promise 5", "3 CELLS to which it MAY GO, 1 FAR (as many as bits: up, down, to the left, to the right: 1, 2, 4, 8). ");
        Due.is("the last cell: up, to the left", x.of(0, 3), 5);
        Due.is("out: to none, as none is far by 1", x.of(1, 3), 0);
        x.put(1, 0);
        Due.is("the first cell: down, to the right", x.of(1, 3), 10);
        Doc.asks("Promise 5", "BAD.");
        for (int odd : new int[] {-1, 2, MIN, MAX}) {
            Due.is("pin " + odd, x.of(odd, 0), BAD);
        }
        for (int odd : new int[] {-1, 4, MIN, MAX}) {
            Due.is("what " + odd, x.of(0, odd), BAD);
        }
    }

    private static void at() {
        Doc.asks("Promise 6", "Of a THREAD: 0 the lesser PIN, 1 the greater one, 2 how LONG, 3 whether CUT (1, 0), 4 whether it HOLDS (1, 0). ");
        PinAtlas x = Due.of("7x7;p00;p06;p66;t20=12;t10=5");
        int[][] want = {{0, 2, 12, 0, 1}, {0, 1, 5, 0, 0}};
        for (int t = 0; t < 2; t++) {
            for (int what = 0; what <= 4; what++) {
                Due.is("of " + t + ", " + what, x.at(t, what), want[t][what]);
            }
        }
        x.cut(0);
        x.cut(1);
        for (int t = 0; t < 2; t++) {
            Due.is("cut", x.at(t, 3), 1);
            Due.is("it does not hold", x.at(t, 4), 0);
            Due.is("how long it was", x.at(t, 2), want[t][2]);
        }
        Doc.asks("Promise 6", "BAD.");
        for (int odd : new int[] {-1, 2, 6, MIN, MAX}) {
            Due.is("thread " + odd, x.at(odd, 0), BAD);
        }
        for (int odd : new int[] {-1, 5, MIN, MAX}) {
            Due.is("what " + odd, x.at(0, odd), BAD);
        }
    }

    private static void cell() {
        Doc.asks("Promise 7", "What is on a CELL: a PIN (its number), 100: a HOLE; NONE. ");
        PinAtlas x = Due.of("7x7;p66;p00;p01;p02;p03;p04;p05;o65;o10");
        Due.is("the last cell: the first pin", x.cell(48), 0);
        Due.is("cell 5: the last pin", x.cell(5), 6);
        Due.is("cell 47: a hole", x.cell(47), 100);
        Due.is("cell 7: a hole", x.cell(7), 100);
        Due.is("cell 6: nothing", x.cell(6), NONE);
        Due.is("cell 8: nothing", x.cell(8), NONE);
        Due.is("cell 46: nothing", x.cell(46), NONE);
        x.out(0);
        Due.is("taken out: a hole", x.cell(48), 100);
        Doc.asks("Promise 7", "BAD.");
        for (int odd : new int[] {-1, -4, 49, 100, MIN, MAX}) {
            Due.is("cell " + odd, x.cell(odd), BAD);
        }
        x.cushion(3, 3);
        Due.is("of a lesser cushion", x.cell(9), BAD);
    }

    private static void count() {
        Doc.asks("Promise 10", "0 ROWS, 1 COLUMNS, 2 PINS, 3 THREADS, 4 the DAY, 5 HOLES, 6 who is OUT (a set), 7 THREADS that HOLD (a set), "
            + "8 what may be UNDONE. ");
        PinAtlas x = Due.of("3x7;p00;p01;p02;p03;p04;p05;p06;t01=1;t12=1;t23=1;t34=1;t45=1;t56=1");
        int[] full = {3, 7, 7, 6, 0, 0, 0, 63, 0};
        for (int what = 0; what <= 8; what++) {
            Due.is("count " + what, x.count(what), full[what]);
        }
        for (int p = 0; p < 7; p++) {
            x.out(p);
        }
        x.days(2);
        int[] out = {3, 7, 7, 6, 2, 7, 127, 0, 8};
        for (int what = 0; what <= 8; what++) {
            Due.is("all are out: count " + what, x.count(what), out[what]);
        }
        Doc.asks("Promise 10", "BAD.");
        for (int odd : new int[] {-1, 9, MIN, MAX}) {
            Due.is("count " + odd, x.count(odd), BAD);
        }
    }
}
