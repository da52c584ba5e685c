/** What is done, and undone: promises 12 to 15, 17 and 18. */
final class DoneEdges extends Edges {
    private static final String T = "Terms";

    static void look() {
        out();
        put();
        cut();
        course();
        outTerms();
        putTerms();
        cutTerms();
        courseTerms();
        undone();
        eight();
        asAhead();
        whateverWasToldSince();
        leaveNothing();
        undo();
        seed();
    }

    private static void out() {
        Doc.asks("Promise 12", "OUT: the CELL where it was. ");
        PinAtlas x = Due.of("7x7;p00;p01;p02;p03;p04;p05;p66");
        Due.is("the last cell", x.out(6), 48);
        Due.is("the first cell", x.out(0), 0);
        Doc.asks("Promise 12", "BAD; ");
        for (int odd : new int[] {-1, 7, MIN, MAX}) {
            Due.is("pin " + odd, x.out(odd), BAD);
        }
        Due.is("no pin there is", new PinAtlas().out(0), BAD);
        Doc.asks("Promise 12", "NOT: it is.");
        Due.is("the last pin again", x.out(6), NOT);
        Due.is("the first pin again", x.out(0), NOT);
        Due.is("two may be undone", x.count(8), 2);
        x.put(0, 0);
        Due.is("put, it may be again", x.out(0), 0);
    }

    private static void put() {
        Doc.asks("Promise 13", "PUT: HOLES. BAD; ");
        PinAtlas x = Due.of("7x7;p00;s11;p66");
        x.out(0);
        x.out(2);
        for (int odd : new int[] {-1, -4, 49, MIN, MAX}) {
            Due.is("cell " + odd, x.put(0, odd), BAD);
        }
        for (int odd : new int[] {-1, 3, MIN, MAX}) {
            Due.is("pin " + odd, x.put(odd, 5), BAD);
        }
        Due.is("on the last cell's hole: one is left", x.put(0, 48), 1);
        Due.is("on the first cell's hole: none is left", x.put(2, 0), 0);
        x.out(0);
        Due.is("on a cell without: one stays", x.put(0, 47), 1);
        Doc.asks("Promise 13", "NOT: it is not OUT, a PIN is there.");
        Due.is("it is not out", x.put(0, 5), NOT);
        Due.is("it is not out, where it is", x.put(0, 47), NOT);
        Due.is("it is not out, where another one is", x.put(0, 0), NOT);
        x.out(0);
        Due.is("a pin is there, on the first cell", x.put(0, 0), NOT);
        Due.is("a pin is there", x.put(0, 8), NOT);
        Due.is("where it was", x.put(0, 47), 1);
    }

    private static void cut() {
        Doc.asks("Promise 14", "CUT: THREADS that HOLD then (a set). BAD; ");
        PinAtlas x = Due.of("3x3;p00;p01;p02;t01=1;t12=1;t02=1;t01=2;t02=2;t12=12");
        for (int odd : new int[] {-1, 6, MIN, MAX}) {
            Due.is("thread " + odd, x.cut(odd), BAD);
        }
        Due.is("all but thread 2 hold", x.count(7), 59);
        Due.is("the last one", x.cut(5), 27);
        Due.is("the first one", x.cut(0), 26);
        Due.is("one that does not hold", x.cut(2), 26);
        Due.is("a thread that is not there", new PinAtlas().cut(0), BAD);
        Doc.asks("Promise 14", "NOT: it is.");
        Due.is("the last one again", x.cut(5), NOT);
        Due.is("the first one again", x.cut(0), NOT);
        Due.is("three may be undone", x.count(8), 3);
        x.cut(1);
        x.cut(3);
        Due.is("none is left", x.cut(4), 0);
    }

    private static void course() {
        Doc.asks("Promise 15", "COURSE becomes v (0 .. 3): what it was. BAD; ");
        PinAtlas x = Due.of("3x3;s00;s01;s02;s10;s11;s12;s20");
        for (int odd : new int[] {-1, 4, MIN, MAX}) {
            Due.is("course " + odd, x.course(0, odd), BAD);
        }
        for (int odd : new int[] {-1, 7, MIN, MAX}) {
            Due.is("pin " + odd, x.course(odd, 0), BAD);
        }
        int was = 3;
        for (int v : new int[] {0, 1, 2, 3, 1, 0, 3, 2}) {
            Due.is("course " + v + " behind " + was, x.course(6, v), was);
            Due.is("it is so", x.of(6, 2), v);
            was = v;
        }
        Due.is("no other pin's", x.of(5, 2), 3);
        Doc.asks("Promise 15", "NOT: it is so.");
        for (int v = 0; v <= 3; v++) {
            PinAtlas y = Due.of("3x3;p00" + "udlr".charAt(v));
            Due.is("course " + v + " again", y.course(0, v), NOT);
            Due.is("none may be undone", y.count(8), 0);
        }
    }

    private static void outTerms() {
        Doc.asks(T, "OUT: a PIN is taken out: its CELL has a HOLE. ");
        for (int c : new int[] {0, 1, 31, 32, 47, 48}) {
            PinAtlas x = new PinAtlas();
            x.cushion(7, 7);
            x.pin(1, c);
            x.out(0);
            Due.is("out of cell " + c, x.cell(c), 100);
            Due.is("one hole", x.count(5), 1);
            Due.is("it is on no cell", x.of(0, 1), NONE);
            Due.is("who is out", x.count(6), 1);
        }
    }

    private static void putTerms() {
        Doc.asks(T, "PUT: a PIN that is OUT is on a CELL again (no PIN there; its HOLE closes). ");
        for (int c : new int[] {0, 1, 31, 32, 47, 48}) {
            PinAtlas x = new PinAtlas();
            x.cushion(7, 7);
            x.pin(1, c);
            x.pin(0, 20);
            x.out(0);
            x.out(1);
            x.put(1, c);
            Due.is("put on cell " + c, x.cell(c), 1);
            Due.is("that hole is closed", x.count(5), 1);
            Due.is("a pin is there", x.put(0, c), NOT);
            x.put(0, 10);
            Due.is("where no hole was", x.cell(10), 0);
            Due.is("its own hole stays", x.cell(20), 100);
            Due.is("nobody is out", x.count(6), 0);
        }
        // A PIN that is PUT need not heed THREADS: they are what they are then.
        PinAtlas tied = Due.of("7x7;p00;p01;t01=1");
        tied.out(0);
        tied.put(0, 48);
        Due.is("put too far for its thread", tied.at(0, 4), 0);
    }

    private static void cutTerms() {
        Doc.asks(T, "CUT: a THREAD is for good. ");
        PinAtlas x = Due.of("3x3;p00;s01;t01=12");
        x.cut(0);
        x.days(3);
        x.out(0);
        x.put(0, 0);
        Due.is("it is cut", x.at(0, 3), 1);
        Due.is("it does not hold", x.at(0, 4), 0);
        Due.is("it may not be again", x.cut(0), NOT);
        x.thread(0, 1, 12);
        Due.is("by a new thread it does not hold", x.count(7), 2);
    }

    private static void courseTerms() {
        Doc.asks(T, "COURSE of a PIN becomes another.");
        for (int k = 0; k < 5; k++) {
            PinAtlas x = new PinAtlas();
            x.pin(k, 12);
            Due.is("of kind " + k, x.course(0, 1), 3);
            Due.is("it is so", x.of(0, 2), 1);
            x.out(0);
            Due.is("of one that is out", x.course(0, 2), 1);
            x.put(0, 12);
            Due.is("it is so when it is put", x.of(0, 2), 2);
        }
    }

    private static void undone() {
        Doc.asks(T, "UNDONE: the latest DAY, PIN OUT or PUT, THREAD CUT, COURSE set is as it had not been ");
        String text = "4x4;s11;m33;p00;o03;t01=9;t12=3";
        Call[] calls = {x -> x.days(1), x -> x.drift(1), x -> x.out(0), x -> x.cut(1), x -> x.course(1, 0)};
        for (int k = 0; k < calls.length; k++) {
            PinAtlas x = Due.of(text);
            calls[k].on(x);
            Due.is("call " + k + " may be undone", x.count(8), 1);
            Due.is("undo()", x.undo(), 0);
            Due.same("call " + k + " has not been", State.seen(x), State.seen(Due.of(text)));
        }
        PinAtlas x = Due.of(text);
        x.out(2);
        String out = State.seen(x);
        x.put(2, 3);
        Due.is("put may be undone", x.undo(), 1);
        Due.same("put has not been", State.seen(x), out);
        // What is not of these is none of what may be UNDONE.
        x.seed(3);
        x.image();
        x.restore();
        x.sheet(0, 0, 3);
        x.ahead(0, 60);
        Due.is("nothing else may be", x.count(8), 1);
    }

    private static void eight() {
        Doc.asks(T, "(8 are known, older ones lost): ");
        for (int n = 1; n <= 40; n++) {
            PinAtlas x = Due.of("3x3;s10");
            x.days(n);
            int known = Math.min(n, 8);
            Due.is(n + " days: known", x.count(8), known);
            for (int k = known - 1; k >= 0; k--) {
                Due.is(n + " days: undo", x.undo(), k);
            }
            Due.is(n + " days: the day", x.count(4), n - known);
            Due.is(n + " days: no more", x.undo(), NONE);
        }
        PinAtlas x = Due.of("3x3;s00;p01;p02;t01=1;t12=1");
        x.cut(0);
        x.cut(1);
        x.out(0);
        x.put(0, 8);
        x.course(0, 0);
        x.course(0, 1);
        x.out(1);
        x.days(1);
        Due.is("eight of all kinds", x.count(8), 8);
        x.drift(1);
        Due.is("nine: eight are known", x.count(8), 8);
        for (int k = 7; k >= 0; k--) {
            Due.is("undo", x.undo(), k);
        }
        Due.is("the oldest is lost: it stays done", x.at(0, 3), 1);
        Due.is("the one behind it is known", x.at(1, 3), 0);
        Due.is("no more", x.undo(), NONE);
        for (int k = 0; k < 30; k++) {
            x.course(2, k % 2);
            x.course(2, 2);
            Due.is("done, undone", x.undo(), Math.min(k + 1, 7));
            Due.is("the course ahead of it", x.of(2, 2), k % 2);
            x.course(2, 2);
            x.undo();
        }
        Due.is("over and over", x.count(8), 7);
    }

    private static void asAhead() {
        Doc.asks(T, "where PINS are, COURSES, HOLES, which THREADS are CUT, the DAY, THE DRAW are as ahead of it, ");
        PinAtlas x = Due.of("4x4;s11;m33;p00;n31;o03;o20;t01=9;t12=3;t03=4");
        String[] ahead = new String[8];
        Call[] calls = {y -> y.days(1), y -> y.cut(2), y -> y.out(1), y -> y.drift(1), y -> y.course(0, 0), y -> y.put(1, 15),
            y -> y.drift(1), y -> y.out(2)};
        for (int k = 0; k < calls.length; k++) {
            ahead[k] = State.seen(x).replaceFirst("count( -?\\d+){9}", "");
            Due.is("call " + k, calls[k].on(x) >= 0 ? 1 : 0, 1);
        }
        for (int k = 7; k >= 0; k--) {
            Due.is("undo", x.undo(), k);
            Due.same("as ahead of call " + k, State.seen(x).replaceFirst("count( -?\\d+){9}", ""), ahead[k]);
        }
        PinAtlas day = new PinAtlas();
        day.days(9);
        for (int k = 8; k >= 1; k--) {
            day.undo();
            Due.is("the day", day.count(4), k);
        }
    }

    private static void whateverWasToldSince() {
        Doc.asks(T, "whatever was told since; ");
        PinAtlas x = new PinAtlas();
        x.seed(5);
        x.days(1);
        x.seed(6);
        x.undo();
        Due.is("a day: the draw ahead of it", State.draw(x), 5);
        x.drift(1);
        x.seed(7);
        x.undo();
        Due.is("a drift: the draw ahead of it", State.draw(x), 5);
        x.pin(1, 3);
        x.out(0);
        x.seed(8);
        x.undo();
        Due.is("out: the draw ahead of it", State.draw(x), 5);
        x.course(0, 0);
        x.seed(9);
        x.course(0, 1);
        x.seed(10);
        x.undo();
        Due.is("a course: the draw ahead of it", State.draw(x), 9);
        x.undo();
        Due.is("the course ahead of that", State.draw(x), 5);
    }

    private static void leaveNothing() {
        Doc.asks(T, "a CUSHION, a new PIN, THREAD leave nothing to be UNDONE.");
        PinAtlas x = Due.of("3x3;p00;p01");
        x.days(9);
        x.pin(0, 8);
        Due.is("a new pin", x.undo(), NONE);
        Due.is("a new pin: how many", x.count(8), 0);
        Due.is("the day stays", x.count(4), 9);
        x.days(3);
        Due.is("what is done since may be", x.count(8), 3);
        x.thread(0, 1, 1);
        Due.is("a new thread", x.undo(), NONE);
        Due.is("a new thread: how many", x.count(8), 0);
        x.days(3);
        x.cushion(3, 3);
        Due.is("a new cushion", x.undo(), NONE);
        x.days(3);
        Due.read(x, "3x3");
        Due.is("a text", x.undo(), NONE);
        x.days(8);
        Due.is("eight again", x.count(8), 8);
        x.pin(9, 9);
        x.thread(0, 0, 0);
        x.cushion(2, 2);
        Due.read(x, "3x");
        Due.is("what is refused leaves them", x.count(8), 8);
    }

    private static void undo() {
        Doc.asks("Promise 17", "UNDONE: how many more may be. NONE: none is known.");
        PinAtlas x = new PinAtlas();
        Due.is("none is known", x.undo(), NONE);
        x.days(1);
        Due.is("one", x.undo(), 0);
        Due.is("none is known any more", x.undo(), NONE);
        x.days(2);
        Due.is("two", x.undo(), 1);
        Due.is("the other one", x.undo(), 0);
        x.days(40);
        Due.is("of forty", x.undo(), 7);
        x.days(1);
        Due.is("eight again", x.count(8), 8);
        Due.is("of eight", x.undo(), 7);
    }

    private static void seed() {
        Doc.asks("Promise 18", "THE DRAW becomes v: what it was. BAD: below 0.");
        PinAtlas x = new PinAtlas();
        Due.is("what it was at first", x.seed(0), 1);
        Due.is("the least", x.seed(MAX), 0);
        Due.is("the greatest", x.seed(5), MAX);
        for (int odd : new int[] {-1, -2, MIN, MIN + 1}) {
            Due.is("seed " + odd, x.seed(odd), BAD);
        }
        Due.is("it stays", x.seed(5), 5);
        Due.is("as it is: taken, too", x.seed(5), 5);
    }
}
