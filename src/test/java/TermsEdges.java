/** The terms ahead of their parts: which refusal is answered ahead of which, and what a refused call leaves. */
final class TermsEdges extends Edges {
    private static final String T = "Terms";

    static void look() {
        numbers();
        badAhead();
        badAheadForetold();
        badAheadSheets();
        machine();
        noItem();
        changesNothing();
        changesNothingForetold();
        changesNothingSheets();
        sets();
        divided();
    }

    private static void numbers() {
        Doc.asks(T, "BAD -1 (a number is not as told, there is no such thing), NOT -2 (as told), FULL -3, NONE -4 (as told), "
            + "CAST -12 (of SHEETS another LANE); what the machine finds: NULL -11, INDEX -13, SIZE -14");
        int[] found = {BAD, NOT, FULL, NONE, NULL, CAST, INDEX, SIZE};
        int[] want = {-1, -2, -3, -4, -11, -12, -13, -14};
        for (int k = 0; k < want.length; k++) {
            Due.is("constant " + k, found[k], want[k]);
        }
    }

    private static void badAhead() {
        Doc.asks(T, "Answers below 0, of several BAD ahead of all others, then the first that a call names");
        PinAtlas x = full();
        Due.is("pin: no kind, a pin is there", x.pin(5, 5), BAD);
        Due.is("pin: no kind, a hole is there", x.pin(-1, 3), BAD);
        Due.is("put: no cell, not out", x.put(0, 12), BAD);
        Due.is("put: no such pin, a pin is there", x.put(3, 5), BAD);
        PinAtlas pins = sevenPins();
        Due.is("pin: no kind, full", pins.pin(5, 10), BAD);
        Due.is("pin: no cell, full", pins.pin(0, 25), BAD);
        Due.is("pin: no kind, a pin is there, full", pins.pin(5, 1), BAD);
        Due.is("pin: a pin is there, full", pins.pin(0, 1), NOT);
        Due.is("pin: a hole is there, full", pins.pin(0, 24), NOT);
        Due.is("pin: full alone", pins.pin(0, 10), FULL);
        PinAtlas threads = sixThreads();
        Due.is("thread: alike, full", threads.thread(0, 0, 1), BAD);
        Due.is("thread: no such pin, full", threads.thread(0, 2, 1), BAD);
        Due.is("thread: no such other pin, full", threads.thread(-1, 1, 1), BAD);
        Due.is("thread: too short, full", threads.thread(0, 1, 0), BAD);
        Due.is("thread: too long, full", threads.thread(0, 1, 13), BAD);
        Due.is("thread: full alone", threads.thread(0, 1, 1), FULL);
        PinAtlas last = lastDay();
        Due.is("days: 0, full", last.days(0), BAD);
        Due.is("days: 41, full", last.days(41), BAD);
        Due.is("days: full alone", last.days(1), FULL);
        Due.is("drift: 0, full", last.drift(0), BAD);
        Due.is("drift: 41, full", last.drift(41), BAD);
        Due.is("drift: full alone", last.drift(1), FULL);
        PinAtlas tape = new PinAtlas();
        for (int k = 0; k < 120; k++) {
            tape.type(' ');
        }
        Due.is("type: 31, full", tape.type(31), BAD);
        Due.is("type: 127, full", tape.type(127), BAD);
        Due.is("type: full alone", tape.type(32), FULL);
    }

    private static void badAheadForetold() {
        Doc.asks(T, "Answers below 0, of several BAD ahead of all others, then the first that a call names");
        PinAtlas x = full();
        for (int odd : new int[] {-1, 61}) {
            Due.is("ahead: " + odd + " days, out", x.ahead(1, odd), BAD);
        }
        // A cell -4 is none, although -4 is what a PIN that is OUT is told to be on.
        for (int odd : new int[] {-1, -4, 12}) {
            Due.is("comes: no cell " + odd + ", out", x.comes(1, odd), BAD);
            Due.is("hole: no cell " + odd + ", out", x.hole(1, odd, 0), BAD);
            Due.is("cuts: no cell " + odd + ", out", x.cuts(1, odd, 0), BAD);
            Due.is("place: no cell " + odd + ", not out", x.place(0, odd, 0), BAD);
            Due.is("place: no cell " + odd, x.place(1, odd, 0), BAD);
            Due.is("breaks: no cell " + odd + ", out", x.breaks(1, odd, 0, 0, 0), BAD);
        }
        for (int odd : new int[] {-1, 2}) {
            Due.is("hole: what " + odd + ", out", x.hole(1, 0, odd), BAD);
            Due.is("cuts: what " + odd + ", out", x.cuts(1, 0, odd), BAD);
            Due.is("place: what " + odd + ", not out", x.place(0, 0, odd), BAD);
            Due.is("nearest: what " + odd + ", no hole", new PinAtlas().nearest(0, odd), BAD);
        }
        Due.is("side: alike, out", x.side(1, 1), BAD);
        Due.is("side: no such other pin, out", x.side(1, 3), BAD);
        Due.is("between: alike, none", x.between(1, 1), BAD);
        Due.is("between: no such other pin, none", x.between(1, 3), BAD);
        Due.is("nearest: no cell, no hole", new PinAtlas().nearest(25, 0), BAD);
        Due.is("of: no such what, out", x.of(1, 4), BAD);
    }

    private static void badAheadSheets() {
        Doc.asks(T, "Answers below 0, of several BAD ahead of all others, then the first that a call names");
        PinAtlas x = full();
        int[][] films = {{3, 1}, {-1, 1}, {0, 0}, {0, 25}};
        for (int[] f : films) {
            Due.is("film: NULL, too", x.film(f[0], f[1], 2, 0, 0), BAD);
            Due.is("film: CAST, too", x.film(f[0], f[1], 0, 1, 0), BAD);
            Due.is("film: INDEX, too", x.film(f[0], f[1], 0, 0, 3), BAD);
        }
        int[][] felts = {{3, 1, 0}, {-1, 1, 0}, {0, 0, 0}, {0, 9, 0}, {0, 1, 2}, {0, 1, -1}, {1, 9, 0}};
        for (int[] f : felts) {
            Due.is("felt: NULL, too", x.felt(f[0], 2, 0, 0, f[1], f[2]), BAD);
            Due.is("felt: CAST, too", x.felt(f[0], 0, 1, 0, f[1], f[2]), BAD);
            Due.is("felt: INDEX, too", x.felt(f[0], 0, 0, -1, f[1], f[2]), BAD);
        }
        Due.is("felt: NOT, too", x.felt(1, 0, 0, 0, 1, 2), BAD);
        for (int lane : new int[] {-1, 4}) {
            Due.is("film: no lane, NULL, too", x.film(0, 1, 2, lane, 9), BAD);
            Due.is("felt: no lane, NULL, too", x.felt(0, 2, lane, 9, 1, 0), BAD);
            Due.is("felt: no lane, NOT, too", x.felt(1, 0, lane, 0, 1, 0), BAD);
            Due.is("item: no lane, NULL, too", x.item(2, lane, 9, 0), BAD);
            Due.is("item: no lane, INDEX, too", x.item(0, lane, 9, 0), BAD);
            Due.is("sheet: no lane, SIZE, too", x.sheet(0, lane, -1), BAD);
        }
        for (int sheet : new int[] {-1, 4}) {
            Due.is("sheet: no sheet, SIZE, too", x.sheet(sheet, 0, -1), BAD);
            Due.is("copy: nothing to take, nowhere to come", x.copy(2, 0, sheet, 0, 1), BAD);
            Due.is("copy: nowhere to take it from, nothing there", x.copy(sheet, 0, 2, 0, 1), BAD);
            Due.is("copy: from no sheet, INDEX, too", x.copy(sheet, 9, 0, -1, -1), BAD);
            Due.is("copy: to no sheet, INDEX, too", x.copy(0, 9, sheet, -1, -1), BAD);
        }
    }

    private static void machine() {
        Doc.asks(T, "(NULL, CAST, INDEX, SIZE in this order; ");
        PinAtlas x = full();
        Due.is("film: NULL, CAST, INDEX", x.film(0, 1, 2, 3, -1), NULL);
        Due.is("film: CAST, INDEX", x.film(0, 1, 0, 3, -1), CAST);
        Due.is("film: INDEX", x.film(0, 1, 0, 0, -1), INDEX);
        Due.is("felt: NULL, CAST, INDEX, NOT", x.felt(1, 2, 3, -1, 1, 0), NULL);
        Due.is("felt: CAST, INDEX, NOT", x.felt(1, 0, 3, -1, 1, 0), CAST);
        Due.is("felt: INDEX, NOT", x.felt(1, 0, 0, -1, 1, 0), INDEX);
        Due.is("felt: NOT", x.felt(1, 0, 0, 0, 1, 0), NOT);
        Due.is("item: NULL, CAST, INDEX", x.item(2, 3, -1, 0), NULL);
        Due.is("item: CAST, INDEX", x.item(0, 3, -1, 0), CAST);
        Due.is("item: INDEX", x.item(0, 0, -1, 0), INDEX);
        Due.is("copy: NULL (from), INDEX", x.copy(2, -1, 0, -1, -1), NULL);
        Due.is("copy: NULL (to), INDEX", x.copy(0, -1, 2, -1, -1), NULL);
        Due.is("copy: NULL (both)", x.copy(2, 0, 2, 0, 0), NULL);
        Due.is("copy: CAST, INDEX", x.copy(0, -1, 1, -1, -1), CAST);
        Due.is("copy: INDEX", x.copy(0, 0, 0, 0, -1), INDEX);
        // A SHEET that was dropped is missing, whatever its LANE was.
        x.drop(0);
        Due.is("item: dropped, of another lane", x.item(0, 3, 0, 0), NULL);
    }

    private static void noItem() {
        Doc.asks(T, "INDEX also where no item is taken, if i, j is below 0, or above how many there are)");
        PinAtlas x = full();
        for (int i = -2; i <= 5; i++) {
            Due.is("no item from " + i + " of 3", x.copy(0, i, 0, 0, 0), i < 0 || i > 3 ? INDEX : 0);
            Due.is("no item to " + i + " of 3", x.copy(0, 0, 0, i, 0), i < 0 || i > 3 ? INDEX : 0);
        }
        Due.is("no item of no items", x.copy(3, 0, 3, 0, 0), 0);
        Due.is("no item from 1 of no items", x.copy(3, 1, 3, 0, 0), INDEX);
        Due.is("no item to 1 of no items", x.copy(3, 0, 3, 1, 0), INDEX);
        Due.is("no item from -1 of no items", x.copy(3, -1, 3, 0, 0), INDEX);
        Due.is("no item from the last number", x.copy(0, MAX, 0, 0, 0), INDEX);
        Due.is("no item from the first number", x.copy(0, MIN, 0, 0, 0), INDEX);
    }

    private static void changesNothing() {
        Doc.asks(T, "What is refused changes nothing, but as told.");
        refuses("cushion(2, 5)", BAD, Edges::full, x -> x.cushion(2, 5));
        refuses("cushion(5, 8)", BAD, Edges::full, x -> x.cushion(5, 8));
        refuses("pin(5, 0)", BAD, Edges::full, x -> x.pin(5, 0));
        refuses("pin(0, 12)", BAD, Edges::full, x -> x.pin(0, 12));
        refuses("pin(0, 5)", NOT, Edges::full, x -> x.pin(0, 5));
        refuses("pin(0, 3)", NOT, Edges::full, x -> x.pin(0, 3));
        refuses("pin(0, 10)", FULL, Edges::sevenPins, x -> x.pin(0, 10));
        refuses("thread(0, 0, 1)", BAD, Edges::full, x -> x.thread(0, 0, 1));
        refuses("thread(0, 1, 13)", BAD, Edges::full, x -> x.thread(0, 1, 13));
        refuses("thread(0, 1, 1)", FULL, Edges::sixThreads, x -> x.thread(0, 1, 1));
        refuses("type(31)", BAD, Edges::full, x -> x.type(31));
        refuses("days(0)", BAD, Edges::full, x -> x.days(0));
        refuses("days(41)", BAD, Edges::full, x -> x.days(41));
        refuses("drift(0)", BAD, Edges::full, x -> x.drift(0));
        refuses("drift(41)", BAD, Edges::full, x -> x.drift(41));
        refuses("out(1)", NOT, Edges::full, x -> x.out(1));
        refuses("out(3)", BAD, Edges::full, x -> x.out(3));
        refuses("put(0, 0)", NOT, Edges::full, x -> x.put(0, 0));
        refuses("put(1, 5)", NOT, Edges::full, x -> x.put(1, 5));
        refuses("put(1, 12)", BAD, Edges::full, x -> x.put(1, 12));
        refuses("cut(1)", NOT, Edges::full, x -> x.cut(1));
        refuses("cut(2)", BAD, Edges::full, x -> x.cut(2));
        refuses("course(0, 1)", NOT, Edges::full, x -> x.course(0, 1));
        refuses("course(0, 4)", BAD, Edges::full, x -> x.course(0, 4));
        refuses("seed(-1)", BAD, Edges::full, x -> x.seed(-1));
        refuses("undo() of nothing", NONE, Edges::sixThreads, x -> x.undo());
        refuses("restore() of nothing", NONE, Edges::sixThreads, x -> x.restore());
        PinAtlas last = lastDay();
        String ahead = State.seen(last);
        Due.is("days(1)", last.days(1), FULL);
        Due.is("drift(40)", last.drift(40), FULL);
        Due.same("behind days and drift that are FULL", State.seen(last), ahead);
        // But as told: THE TAPE is empty behind a FAULT; all else is as it was.
        PinAtlas y = full();
        PinAtlas z = full();
        Due.is("read() of 3x", y.read(), -22);
        z.read();
        Due.same("behind a fault", State.seen(y), State.seen(full()));
        Due.is("the tape", y.type('3'), 1);
    }

    private static void changesNothingForetold() {
        Doc.asks(T, "What is refused changes nothing, but as told.");
        refuses("ahead(1, 61)", BAD, Edges::full, x -> x.ahead(1, 61));
        refuses("holes(61)", BAD, Edges::full, x -> x.holes(61));
        refuses("comes(1, 12)", BAD, Edges::full, x -> x.comes(1, 12));
        refuses("side(1, 1)", BAD, Edges::full, x -> x.side(1, 1));
        refuses("hole(1, 0, 2)", BAD, Edges::full, x -> x.hole(1, 0, 2));
        refuses("cuts(1, 0, 2)", BAD, Edges::full, x -> x.cuts(1, 0, 2));
        refuses("place(0, 0, 0)", NOT, Edges::full, x -> x.place(0, 0, 0));
        refuses("place(1, 0, 2)", BAD, Edges::full, x -> x.place(1, 0, 2));
        refuses("nearest(0, 2)", BAD, Edges::full, x -> x.nearest(0, 2));
        refuses("bound(3)", BAD, Edges::full, x -> x.bound(3));
        refuses("between(0, 0)", BAD, Edges::full, x -> x.between(0, 0));
        refuses("which(2)", BAD, Edges::full, x -> x.which(2));
        refuses("breaks(0, 0, 31, 0, 0)", BAD, Edges::full, x -> x.breaks(0, 0, 31, 0, 0));
        refuses("of(0, 4)", BAD, Edges::full, x -> x.of(0, 4));
        refuses("at(0, 5)", BAD, Edges::full, x -> x.at(0, 5));
        refuses("cell(12)", BAD, Edges::full, x -> x.cell(12));
        refuses("count(9)", BAD, Edges::full, x -> x.count(9));
    }

    private static void changesNothingSheets() {
        Doc.asks(T, "What is refused changes nothing, but as told.");
        refuses("felt(1, 0, 0, 0, 1, 0)", NOT, Edges::full, x -> x.felt(1, 0, 0, 0, 1, 0));
        refuses("felt(0, 0, 0, 0, 9, 0)", BAD, Edges::full, x -> x.felt(0, 0, 0, 0, 9, 0));
        refuses("film(0, 25, 0, 0, 0)", BAD, Edges::full, x -> x.film(0, 25, 0, 0, 0));
        refuses("film(0, 1, 2, 0, 0)", NULL, Edges::full, x -> x.film(0, 1, 2, 0, 0));
        refuses("film(0, 3, 0, 3, 0)", CAST, Edges::full, x -> x.film(0, 3, 0, 3, 0));
        // No item of it comes to the SHEET, not even those for which there is room.
        refuses("film(0, 4, 0, 0, 0)", INDEX, Edges::full, x -> x.film(0, 4, 0, 0, 0));
        refuses("film(0, 3, 0, 0, 1)", INDEX, Edges::full, x -> x.film(0, 3, 0, 0, 1));
        refuses("film(0, 2, 0, 0, -1)", INDEX, Edges::full, x -> x.film(0, 2, 0, 0, -1));
        refuses("sheet(0, 1, 25)", BAD, Edges::full, x -> x.sheet(0, 1, 25));
        refuses("sheet(0, 4, 1)", BAD, Edges::full, x -> x.sheet(0, 4, 1));
        refuses("sheet(0, 1, -1)", SIZE, Edges::full, x -> x.sheet(0, 1, -1));
        refuses("sheet(2, 1, -1)", SIZE, Edges::full, x -> x.sheet(2, 1, -1));
        refuses("drop(2)", NULL, Edges::full, x -> x.drop(2));
        refuses("drop(4)", BAD, Edges::full, x -> x.drop(4));
        refuses("item(2, 0, 0, 6)", NULL, Edges::full, x -> x.item(2, 0, 0, 6));
        refuses("item(0, 3, 0, 6)", CAST, Edges::full, x -> x.item(0, 3, 0, 6));
        refuses("item(0, 0, 3, 6)", INDEX, Edges::full, x -> x.item(0, 0, 3, 6));
        refuses("item(0, 4, 0, 6)", BAD, Edges::full, x -> x.item(0, 4, 0, 6));
        refuses("copy(0, 0, 2, 0, 1)", NULL, Edges::full, x -> x.copy(0, 0, 2, 0, 1));
        refuses("copy(0, 0, 1, 0, 1)", CAST, Edges::full, x -> x.copy(0, 0, 1, 0, 1));
        refuses("copy(0, 0, 0, 1, 3)", INDEX, Edges::full, x -> x.copy(0, 0, 0, 1, 3));
        refuses("copy(0, 1, 0, 0, 3)", INDEX, Edges::full, x -> x.copy(0, 1, 0, 0, 3));
        refuses("copy(0, 0, 4, 0, 1)", BAD, Edges::full, x -> x.copy(0, 0, 4, 0, 1));
    }

    private static void sets() {
        Doc.asks(T, "Sets are bits.");
        PinAtlas x = Due.of("3x7;p00;p01;p02;p03;p04;p05;p06;t01=1;t12=1;t23=1;t34=1;t45=1;t56=1");
        Due.is("threads 0 to 5 hold", x.count(7), 63);
        Due.is("pins 0 to 6 are bound", x.bound(6), 127);
        Due.is("the empty set of those that are out", x.count(6), 0);
        x.out(6);
        Due.is("pin 6 alone is out", x.count(6), 64);
        Due.is("thread 5 alone does not hold", x.count(7), 31);
        x.out(0);
        Due.is("pins 0 and 6 are out", x.count(6), 65);
        Due.is("threads 1 to 4 hold", x.count(7), 30);
    }

    /** By hand: 25 cells; the draw by 65536 tells the cell, by 128 the dust. */
    private static void divided() {
        Doc.asks(T, "What is divided is cut.");
        int looked = 0;
        for (int seed = 0; looked < 12; seed++) {
            long draw = (seed * 1103515245L + 12345L) % (1L << 31);
            long part = draw % 65536;
            if (part > 60000 && draw / 128 % 3 == 0) {
                PinAtlas x = new PinAtlas();
                x.seed(seed);
                x.drift(1);
                Due.is("seed " + seed + ": a draw just below the next cell's", x.cell((int) (draw / 65536 % 25)), 100);
                looked++;
            }
        }
    }
}
