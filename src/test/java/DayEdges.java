/** How a day goes, by kind; days, drifts: promises 11 and 16. */
final class DayEdges extends Edges {
    private static final String T = "Terms";

    static void look() {
        closes();
        oneCell();
        ports();
        ships();
        shipsAtEdges();
        rustyDays();
        rustyLikeOnes();
        rustyWays();
        needles();
        missions();
        rising();
        theNextDay();
        days();
        daysFull();
        drift();
        draws();
        dust();
        dustLeftOver();
    }

    /** Where a pin is on each of the next days. */
    private static void goes(String what, PinAtlas x, int pin, int... cells) {
        for (int k = 0; k < cells.length; k++) {
            x.days(1);
            Due.is(what + ", day " + (k + 1), x.of(pin, 1), cells[k]);
        }
    }

    private static void closes() {
        Doc.asks(T, "If it goes on a HOLE, that closes.");
        for (String kind : new String[] {"s11u", "r11", "n11", "m11"}) {
            PinAtlas x = Due.of("3x3;" + kind + ";o01");
            Due.is(kind + ": holes behind it", x.days(1), 0);
            Due.is(kind + ": there it is", x.cell(1), 0);
            x.course(0, 1);
            x.out(0);
            x.put(0, 4);
            Due.is(kind + ": closed for good, but for its being taken out", x.cell(1), 100);
        }
        PinAtlas last = Due.of("7x7;s65;o66;o00");
        Due.is("the last cell's", last.days(1), 1);
        Due.is("not the first cell's", last.cell(0), 100);
        PinAtlas first = Due.of("7x7;s01l;o66;o00");
        Due.is("the first cell's", first.days(1), 1);
        Due.is("not the last cell's", first.cell(48), 100);
        PinAtlas beside = Due.of("3x3;s11u;o00;o02;o10;o12");
        Due.is("none beside it", beside.days(1), 4);
    }

    private static void oneCell() {
        Doc.asks(T, "On a DAY a PIN goes, by KIND, 1 CELL at most: ");
        PinAtlas x = Due.of("7x7;s00;r60;n66;m03;o63");
        int[] from = {0, 42, 48, 3};
        x.days(1);
        int[] to = {1, 43, 41, 10};
        for (int p = 0; p < 4; p++) {
            Due.is("pin " + p + " was on " + from[p], x.of(p, 1), to[p]);
        }
    }

    private static void ports() {
        Doc.asks(T, "0 PORT: stays. ");
        for (int v = 0; v < 4; v++) {
            PinAtlas x = Due.of("3x3;p11" + "udlr".charAt(v) + ";o01;o21;o10;o12");
            Due.is("holes all round it", x.days(4), 4);
            Due.is("it stays", x.of(0, 1), 4);
            Due.is("its course stays", x.of(0, 2), v);
        }
    }

    private static void ships() {
        Doc.asks(T, "Below it 1 SHIP: on its COURSE, if it MAY GO; ");
        int[] to = {7, 17, 11, 13};
        for (int v = 0; v < 4; v++) {
            PinAtlas x = Due.of("5x5;s22" + "udlr".charAt(v) + ";o00");
            x.days(1);
            Due.is("by course " + v, x.of(0, 1), to[v]);
            Due.is("its course stays", x.of(0, 2), v);
        }
        Doc.asks(T, "if not, its COURSE is the other way round then (it stays). ");
        for (int v = 0; v < 4; v++) {
            PinAtlas x = Due.of("3x3;s11" + "udlr".charAt(v) + ";p01;p10;p12;p21");
            int[] other = {1, 0, 3, 2};
            for (int k = 0; k < 3; k++) {
                x.days(1);
                Due.is("pins all round it, it stays", x.of(0, 1), 4);
                Due.is("the other way round", x.of(0, 2), k % 2 == 0 ? other[v] : v);
            }
        }
        PinAtlas tied = Due.of("3x7;s13;p10;t01=3");
        goes("a thread just as long", tied, 0, 10, 9, 8, 8, 9, 10, 10, 9);
        PinAtlas longer = Due.of("3x7;s13;p10;t01=4");
        goes("a thread longer by 1", longer, 0, 11, 11, 10);
        PinAtlas shorter = Due.of("3x7;s13;p10;t01=2");
        goes("a thread that does not hold", shorter, 0, 11, 12, 13, 13, 12, 11, 10, 9, 8, 8, 9, 9, 8);
    }

    private static void shipsAtEdges() {
        Doc.asks(T, "if not, its COURSE is the other way round then (it stays). ");
        PinAtlas right = Due.of("3x3;s12r");
        goes("the end of a row is an end", right, 0, 5, 4, 3, 3, 4, 5, 5);
        PinAtlas left = Due.of("3x3;s10l");
        goes("its beginning, too", left, 0, 3, 4, 5, 5, 4, 3, 3);
        PinAtlas up = Due.of("3x3;s01u");
        goes("the highest row", up, 0, 1, 4, 7, 7, 4, 1, 1);
        PinAtlas down = Due.of("3x3;s21d");
        goes("the lowest row", down, 0, 7, 4, 1, 1, 4, 7, 7);
        PinAtlas first = Due.of("7x7;s00u");
        goes("the first cell", first, 0, 0, 7, 14, 21, 28, 35, 42, 42, 35);
        PinAtlas last = Due.of("7x7;s66r");
        goes("the last cell", last, 0, 48, 47, 46, 45, 44, 43, 42, 42, 43);
    }

    private static void rustyDays() {
        Doc.asks(T, "2 RUSTY (below PORT): on DAYS of an even number (0, too) nearer to the nearest HOLE ");
        PinAtlas x = Due.of("7x7;r00;o60");
        goes("from day 0 on", x, 0, 7, 7, 14, 14, 21, 21, 28);
        x.undo();
        Due.is("day 6 is undone", x.of(0, 1), 21);
        goes("day 6 again", x, 0, 28, 28, 35);
        PinAtlas odd = new PinAtlas();
        odd.days(1);
        odd.pin(2, 0);
        odd.pin(0, 20);
        odd.out(1);
        goes("from day 1 on", odd, 0, 0, 5, 5, 10, 10, 15);
        PinAtlas late = new PinAtlas();
        for (int k = 0; k < 249; k++) {
            late.days(40);
        }
        late.days(36);
        late.pin(2, 0);
        late.pin(0, 20);
        late.out(1);
        Due.is("day 9996", late.count(4), 9996);
        goes("to day 9999", late, 0, 5, 5, 10);
    }

    private static void rustyLikeOnes() {
        Doc.asks(T, "(of like ones the first), ");
        PinAtlas all = Due.of("5x5;m22;o02;o20;o24;o42");
        goes("up ahead of left, right, down", all, 0, 7, 2);
        PinAtlas three = Due.of("5x5;m22;o20;o24;o42");
        goes("left ahead of right, down", three, 0, 11, 10);
        PinAtlas two = Due.of("5x5;m22;o24;o42");
        goes("right ahead of down", two, 0, 13, 14);
        PinAtlas corners = Due.of("5x5;m22;o00;o04;o40;o44");
        goes("the first corner", corners, 0, 7, 2, 1, 0);
        PinAtlas nearer = Due.of("5x5;m22;o00;o43");
        goes("a nearer one that is a later one", nearer, 0, 17, 22, 23);
        PinAtlas ends = Due.of("7x7;m33;o00;o66");
        goes("the first cell ahead of the last", ends, 0, 17, 10, 3, 2, 1, 0);
        PinAtlas rusty = Due.of("5x5;r22;o24;o42");
        goes("a rusty one", rusty, 0, 13, 13, 14);
    }

    private static void rustyWays() {
        Doc.asks(T, "if it MAY GO: 1 ROW nearer, if it is another one, else 1 COLUMN; no HOLE: it stays. ");
        PinAtlas down = Due.of("5x5;r00;o44");
        goes("rows ahead of columns", down, 0, 5, 5, 10, 10, 15, 15, 20, 20, 21);
        PinAtlas up = Due.of("5x5;r44;o00");
        goes("up, then left", up, 0, 19, 19, 14, 14, 9, 9, 4, 4, 3);
        PinAtlas row = Due.of("5x5;r20;o24");
        goes("its own row: right", row, 0, 11, 11, 12);
        PinAtlas back = Due.of("5x5;r24;o20");
        goes("its own row: left", back, 0, 13, 13, 12);
        PinAtlas blocked = Due.of("5x5;r00;p10;o44");
        goes("a pin in the row nearer: it does not take the column", blocked, 0, 0, 0, 0);
        PinAtlas aside = Due.of("5x5;r00;p01;o04");
        goes("a pin in the column nearer", aside, 0, 0, 0, 0);
        PinAtlas tied = Due.of("5x5;r20;p00;o40;t01=2");
        goes("a thread just as long", tied, 0, 10, 10, 10);
        Due.is("its course stays", tied.of(0, 2), 3);
        tied.cut(0);
        goes("it is cut", tied, 0, 10, 15);
        PinAtlas none = Due.of("5x5;r22u");
        goes("no hole", none, 0, 12, 12, 12);
        Due.is("no hole: its course stays", none.of(0, 2), 0);
        PinAtlas mission = Due.of("5x5;m22");
        goes("no hole, a mission", mission, 0, 12, 12);
    }

    private static void needles() {
        Doc.asks(T, "3 NEEDLE (below SHIP): as SHIP, but its COURSE is up ahead of it. ");
        for (int v = 0; v < 4; v++) {
            PinAtlas x = Due.of("3x3;n21" + "udlr".charAt(v));
            goes("whatever its course is, up", x, 0, 4, 1);
            Due.is("its course is up", x.of(0, 2), 0);
            goes("in the highest row it stays", x, 0, 1);
            Due.is("the other way round: down", x.of(0, 2), 1);
            goes("it does not go down", x, 0, 1, 1);
            Due.is("down again, each day", x.of(0, 2), 1);
        }
        PinAtlas below = Due.of("3x3;n21;p11");
        goes("a pin above it", below, 0, 7, 7);
        Due.is("its course is down", below.of(0, 2), 1);
        below.out(1);
        Due.is("a hole above it closes", below.days(1), 0);
        Due.is("up", below.of(0, 2), 0);
        PinAtlas tied = Due.of("3x3;n11;p21;t01=1");
        goes("a thread just as long", tied, 0, 4, 4);
        Due.is("down, by the thread", tied.of(0, 2), 1);
    }

    private static void missions() {
        Doc.asks(T, "4 MISSION (below RUSTY): as RUSTY, on each DAY.");
        PinAtlas x = Due.of("5x5;m00;o22");
        goes("on even days and on odd ones", x, 0, 5, 10, 11, 12, 12, 12);
        PinAtlas blocked = Due.of("5x5;m00;p10;o44");
        goes("a pin in the row nearer", blocked, 0, 0, 0);
        blocked.out(1);
        goes("its hole", blocked, 0, 5, 10);
        PinAtlas course = Due.of("5x5;m00d;o04");
        goes("its course is not asked", course, 0, 1, 2);
        Due.is("it stays as it is", course.of(0, 2), 1);
    }

    private static void rising() {
        Doc.asks(T, "A DAY: PINS that are not OUT go so, rising, each by how all is by then. ");
        PinAtlas ahead = Due.of("3x7;s11;s10");
        ahead.days(1);
        Due.is("the first makes room", ahead.of(0, 1), 9);
        Due.is("for the second", ahead.of(1, 1), 8);
        PinAtlas behind = Due.of("3x7;s10;s11");
        behind.days(1);
        Due.is("the second is in the first one's way", behind.of(0, 1), 7);
        Due.is("it turns", behind.of(0, 2), 2);
        Due.is("the second goes", behind.of(1, 1), 9);
        PinAtlas row = Due.of("3x7;s16l;s15l;s14l;s13l;s12l;s11l;s10l");
        row.days(1);
        for (int p = 0; p < 7; p++) {
            Due.is("seven in a row, pin " + p + " finds the next one there", row.of(p, 1), 13 - p);
            Due.is("it turns", row.of(p, 2), 3);
        }
        PinAtlas file = Due.of("3x7;s10l;s11l;s12l;s13l;s14l;s15l;s16l");
        file.days(1);
        Due.is("the first at the edge turns, the last behind it, too", file.of(6, 2), 3);
        PinAtlas hole = Due.of("3x5;m10;m14;o12");
        hole.days(2);
        Due.is("the first has the hole", hole.of(0, 1), 7);
        Due.is("by then there is none for the second", hole.of(1, 1), 8);
        PinAtlas thread = Due.of("3x7;s12;s13;t01=1");
        thread.days(1);
        Due.is("the first is held", thread.of(0, 1), 9);
        Due.is("and so is the second", thread.of(1, 1), 10);
        PinAtlas out = Due.of("3x5;m10;s12u;p14;o04");
        out.out(1);
        out.course(1, 1);
        goes("nobody is in the way to the hole of the one that is out", out, 0, 6, 7, 2);
        Due.is("who is out does not go", out.of(1, 1), NONE);
        Due.is("nor turn", out.of(1, 2), 1);
    }

    private static void theNextDay() {
        Doc.asks(T, "It is the next DAY.");
        PinAtlas x = new PinAtlas();
        for (int n = 1; n <= 5; n++) {
            x.days(1);
            Due.is("with no pin", x.count(4), n);
        }
        x.drift(1);
        Due.is("of a drift", x.count(4), 6);
    }

    private static void days() {
        Doc.asks("Promise 11", "n DAYS (1 .. 40; each by itself may be UNDONE): HOLES. BAD; ");
        for (int n = 1; n <= 40; n++) {
            PinAtlas x = Due.of("3x3;s10;m22;o02;o00");
            PinAtlas y = Due.of("3x3;s10;m22;o02;o00");
            int holes = x.days(n);
            int one = 0;
            for (int k = 0; k < n; k++) {
                one = y.days(1);
            }
            Due.is(n + " days, holes", holes, one);
            Due.is(n + " days, the day", x.count(4), n);
            Due.is(n + " days, what may be undone", x.count(8), Math.min(n, 8));
            Due.same(n + " days, as one by one", State.seen(x), State.seen(y));
        }
        PinAtlas x = new PinAtlas();
        for (int n : new int[] {0, 41, -1, 42, MIN, MAX}) {
            Due.is(n + " days", x.days(n), BAD);
        }
        Due.is("none has been", x.count(4), 0);
        Due.is("no hole", x.days(1), 0);
        Due.is("nine holes", Due.of("3x3;o00;o01;o02;o10;o11;o12;o20;o21;o22").days(40), 9);
    }

    private static PinAtlas nearTheEnd() {
        PinAtlas x = new PinAtlas();
        for (int k = 0; k < 249; k++) {
            x.days(40);
        }
        return x;
    }

    private static void daysFull() {
        Doc.asks("Promise 11", "FULL: the DAY would be above 9999.");
        PinAtlas x = nearTheEnd();
        Due.is("9960 and 40", x.days(40), FULL);
        Due.is("it is day 9960", x.count(4), 9960);
        Due.is("9960 and 39", x.days(39), 0);
        Due.is("it is day 9999", x.count(4), 9999);
        Due.is("9999 and 1", x.days(1), FULL);
        Due.is("9999 and 40", x.days(40), FULL);
        x.undo();
        Due.is("9998 and 2", x.days(2), FULL);
        Due.is("9998 and 1", x.days(1), 0);
        x.cushion(3, 3);
        Due.is("a new cushion's first 40", x.days(40), 0);
        Doc.asks("Promise 16", "FULL: likewise.");
        PinAtlas y = nearTheEnd();
        Due.is("9960 and 40", y.drift(40), FULL);
        Due.is("the draw is as it was", State.draw(y), 1);
        Due.is("no dust was", y.count(5), 0);
        Due.is("9960 and 39", y.drift(39) >= 0 ? 1 : 0, 1);
        Due.is("9999 and 1", y.drift(1), FULL);
        y.undo();
        Due.is("9998 and 1", y.drift(1) >= 0 ? 1 : 0, 1);
        Due.is("it is day 9999", y.count(4), 9999);
    }

    private static void drift() {
        Doc.asks("Promise 16", "A DRIFT of n DAYS (1 .. 40; each with its dust one that may be UNDONE): HOLES. BAD; ");
        for (int n = 1; n <= 40; n++) {
            PinAtlas x = Due.of("4x4;s10;m33;n32");
            PinAtlas y = Due.of("4x4;s10;m33;n32");
            int holes = x.drift(n);
            int one = 0;
            for (int k = 0; k < n; k++) {
                one = y.drift(1);
            }
            Due.is(n + " days, holes", holes, one);
            Due.is(n + " days, count of holes", x.count(5), one);
            Due.is(n + " days, what may be undone", x.count(8), Math.min(n, 8));
            Due.same(n + " days, as one by one", State.seen(x), State.seen(y));
        }
        PinAtlas x = new PinAtlas();
        for (int n : new int[] {0, 41, -1, 42, MIN, MAX}) {
            Due.is(n + " days", x.drift(n), BAD);
        }
        Due.is("none has been", x.count(4), 0);
        Due.is("no draw has been", State.draw(x), 1);
        PinAtlas y = new PinAtlas();
        y.seed(seedOfDust(25, 7, 0));
        int draw = State.draw(y);
        Due.is("dust on cell 7", y.drift(1), 1);
        Due.is("undone with its day", y.undo(), 0);
        Due.is("no hole", y.count(5), 0);
        Due.is("the draw ahead of it", State.draw(y), draw);
        Due.is("the day ahead of it", y.count(4), 0);
    }

    private static long next(long draw) {
        return (draw * 1103515245L + 12345L) % (1L << 31);
    }

    /** A seed whose next draw is of this cell, and by 128 of this rest. */
    private static int seedOfDust(int cells, int cell, int rest) {
        for (int seed = 0; seed < MAX; seed++) {
            long draw = next(seed);
            if (draw / 65536 % cells == cell && draw / 128 % 3 == rest) {
                return seed;
            }
        }
        return -1;
    }

    private static void draws() {
        Doc.asks(T, "DRIFT by a seed: THE DRAW is a number of 31 bits (1 at first); ");
        Due.is("at first", new PinAtlas().seed(0), 1);
        PinAtlas x = new PinAtlas();
        x.seed(MAX);
        Due.is("the greatest of 31 bits", State.draw(x), MAX);
        Doc.asks(T, "ahead of each DAY of a DRIFT it becomes the lowest 31 bits of itself times 1103515245 and 12345 more: ");
        int[] seeds = {0, 1, 2, 12345, 0x3fffffff, 0x40000000, MAX - 1, MAX};
        for (int seed : seeds) {
            PinAtlas y = new PinAtlas();
            y.seed(seed);
            long draw = seed;
            for (int k = 0; k < 20; k++) {
                y.drift(1);
                draw = next(draw);
                Due.is("seed " + seed + ", day " + k, State.draw(y), draw);
            }
            y.days(20);
            Due.is("days have no draw", State.draw(y), draw);
            Due.is("what is foretold has none", y.holes(60), y.count(5));
            Due.is("it is as it was", State.draw(y), draw);
        }
        PinAtlas z = new PinAtlas();
        z.drift(1);
        Due.is("1, by hand", State.draw(z), 1103527590);
        z.seed(0);
        z.drift(1);
        Due.is("0, by hand", State.draw(z), 12345);
        z.seed(MAX);
        z.drift(1);
        // 2^31 - 1 times a is 2^31 a - a: its lowest 31 bits and 12345 more are 2^31 - 1103502900.
        Due.is("the greatest, by hand", State.draw(z), 1043980748);
    }

    private static void dust() {
        Doc.asks(T, "the CELL that is it by 65536, left over by how many there are, has a HOLE, if no PIN is on it, ");
        int[][] sizes = {{3, 3}, {5, 5}, {7, 7}, {3, 7}};
        for (int[] s : sizes) {
            int cells = s[0] * s[1];
            for (int c = 0; c < cells; c++) {
                PinAtlas x = new PinAtlas();
                x.cushion(s[0], s[1]);
                x.seed(seedOfDust(cells, c, 0));
                Due.is(cells + " cells, dust on " + c, x.drift(1), 1);
                Due.is("there it is", x.cell(c), 100);
                PinAtlas y = new PinAtlas();
                y.cushion(s[0], s[1]);
                y.pin(0, c);
                y.seed(seedOfDust(cells, c, 0));
                Due.is(cells + " cells, a pin on " + c, y.drift(1), 0);
                Due.is("there it is", y.cell(c), 0);
                y.out(0);
                y.seed(seedOfDust(cells, c, 0));
                Due.is("a hole on it stays one", y.drift(1), 1);
            }
        }
        PinAtlas pulls = new PinAtlas();
        pulls.pin(2, 0);
        pulls.seed(seedOfDust(25, 20, 0));
        pulls.drift(1);
        Due.is("ahead of the day: it pulls on it", pulls.of(0, 1), 5);
        PinAtlas leaves = new PinAtlas();
        leaves.pin(1, 12);
        leaves.seed(seedOfDust(25, 12, 0));
        Due.is("ahead of the day: the pin is there still", leaves.drift(1), 0);
        PinAtlas closes = new PinAtlas();
        closes.pin(1, 12);
        closes.seed(seedOfDust(25, 13, 0));
        Due.is("ahead of the day: a pin closes it on it", closes.drift(1), 0);
    }

    private static void dustLeftOver() {
        Doc.asks(T, "and it by 128, left over by 3, is 0. ");
        for (int rest = 0; rest < 3; rest++) {
            for (int c : new int[] {0, 24}) {
                PinAtlas x = new PinAtlas();
                x.seed(seedOfDust(25, c, rest));
                Due.is("left over " + rest, x.drift(1), rest == 0 ? 1 : 0);
                Due.is("the day goes by all the same", x.count(4), 1);
            }
        }
    }
}
