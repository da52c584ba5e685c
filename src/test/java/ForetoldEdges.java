/** What is foretold: promises 19 to 30. */
final class ForetoldEdges extends Edges {
    private static final String T = "Terms";
    /** Thirty steps of a rusty pin from cell 0 by way of these holes to cell 42, two days each. */
    private static final String WALK = ";o02;o04;o06;o20;o22;o24;o26;o40;o42;o44;o46;o60;o62;o64;o66";

    static void look() {
        nothingIsChanged();
        behind();
        ahead();
        holes();
        comes();
        side();
        hole();
        holeWithin();
        cuts();
        cutsWithin();
        place();
        placeWithin();
        nearest();
        bound();
        between();
        alone();
        taut();
        breaks();
        breaksInLowestTerms();
        fullCushion();
    }

    private static void nothingIsChanged() {
        Doc.asks(T, "2 FORETOLD from now (nothing is changed): ");
        Call[] calls = {x -> x.ahead(0, 60), x -> x.holes(60), x -> x.comes(2, 0), x -> x.side(0, 2), x -> x.hole(2, 0, 0),
            x -> x.cuts(0, 11, 1), x -> x.place(1, 0, 1), x -> x.nearest(0, 0), x -> x.bound(0), x -> x.between(0, 2),
            x -> x.which(0), x -> x.which(1), x -> x.breaks(0, 1, 30, 5, 0), x -> x.felt(0, 0, 0, 0, 3, 0)};
        String want = State.whole(full());
        for (int k = 0; k < calls.length; k++) {
            PinAtlas x = full();
            int first = calls[k].on(x);
            Due.is("call " + k + " again", calls[k].on(x), first);
            Due.same("behind call " + k, State.whole(x), want);
        }
    }

    private static void behind() {
        Doc.asks(T, "behind n DAYS (0 .. 60) the CELL of a PIN (NONE: OUT); how many HOLES there are. ");
        String text = "5x6;s20;r00;m44;n43;p22;s11d;o05;o30;o41;t02=7";
        PinAtlas x = Due.of(text);
        PinAtlas y = Due.of(text);
        for (int n = 0; n <= 60; n++) {
            for (int p = 0; p < 6; p++) {
                if (n % 20 == p || n == 60 || n < 3) {
                    Due.is("pin " + p + " behind " + n + " days", x.ahead(p, n), y.of(p, 1));
                }
            }
            Due.is("holes behind " + n + " days", x.holes(n), y.count(5));
            y.days(1);
        }
        y.out(2);
        for (int n : new int[] {0, 1, 59, 60}) {
            Due.is("out, behind " + n + " days", y.ahead(2, n), NONE);
        }
    }

    private static void ahead() {
        Doc.asks("Promise 19", "The CELL of a PIN behind n DAYS; NONE. BAD.");
        PinAtlas x = Due.of("3x7;s00;p10;p11;p12;p13;p14;s26l");
        Due.is("now", x.ahead(6, 0), 20);
        Due.is("behind 1 day", x.ahead(6, 1), 19);
        Due.is("behind 6 days", x.ahead(6, 6), 14);
        Due.is("behind 60 days", x.ahead(0, 60), 4);
        takes("days", 0, 60, n -> x.ahead(0, n));
        for (int odd : new int[] {-1, 7, MIN, MAX}) {
            Due.is("pin " + odd, x.ahead(odd, 0), BAD);
        }
        x.out(6);
        Due.is("out", x.ahead(6, 0), NONE);
        Due.is("out, behind 60 days", x.ahead(6, 60), NONE);
    }

    private static void holes() {
        Doc.asks("Promise 20", "How many HOLES there are behind n DAYS. BAD.");
        PinAtlas x = Due.of("7x7;r00" + WALK);
        Due.is("now", x.holes(0), 15);
        Due.is("behind 59 days the last one is closed", x.holes(59), 0);
        Due.is("behind 58 days it is not", x.holes(58), 1);
        takes("days", 0, 60, n -> x.holes(n));
        Due.is("all of a cushion", Due.of("3x3;o00;o01;o02;o10;o11;o12;o20;o21;o22").holes(60), 9);
        Due.is("none", new PinAtlas().holes(60), 0);
    }

    private static void comes() {
        Doc.asks(T, "COMES: the first of 0 to 60 DAYS behind which a PIN is on a told CELL; none. ");
        PinAtlas x = Due.of("3x7;s10;p26");
        Due.is("0: it is there", x.comes(0, 7), 0);
        Due.is("1", x.comes(0, 8), 1);
        Due.is("the first of several", x.comes(0, 13), 6);
        Due.is("never", x.comes(0, 0), NONE);
        Due.is("a port is there", x.comes(1, 20), 0);
        Due.is("a port goes nowhere", x.comes(1, 19), NONE);
        PinAtlas late = Due.of("7x7" + WALK);
        late.days(1);
        late.pin(2, 0);
        Due.is("60", late.comes(0, 42), 60);
        PinAtlas tooLate = Due.of("7x7;r10;o00" + WALK);
        Due.is("61: none", tooLate.comes(0, 42), NONE);
        tooLate.days(1);
        Due.is("60, a day later", tooLate.comes(0, 42), 60);
        tooLate.days(30);
        Due.is("30, thirty days later", tooLate.comes(0, 42), 30);
        Doc.asks("Promise 21", "COMES; NONE. BAD.");
        for (int odd : new int[] {-1, -4, 21, MIN, MAX}) {
            Due.is("cell " + odd, x.comes(0, odd), BAD);
        }
        for (int odd : new int[] {-1, 2, MIN, MAX}) {
            Due.is("pin " + odd, x.comes(odd, 7), BAD);
        }
        Due.is("the last cell", x.comes(0, 20), NONE);
        x.out(0);
        for (int c = 0; c < 21; c++) {
            Due.is("out, cell " + c, x.comes(0, c), NONE);
        }
    }

    private static void side() {
        Doc.asks(T, "SIDE BY SIDE: the first of 0 to 60 DAYS behind which two PINS are FAR by 1; none. ");
        PinAtlas x = Due.of("5x5;p22;p12;p21;p23;p32;p11;p24");
        for (int p = 1; p <= 4; p++) {
            Due.is("0: beside pin " + p, x.side(0, p), 0);
        }
        Due.is("aslant", x.side(0, 5), NONE);
        Due.is("far by 2", x.side(0, 6), NONE);
        PinAtlas row = Due.of("5x5;p04;p10");
        Due.is("the end of a row and the next one's beginning", row.side(0, 1), NONE);
        PinAtlas one = Due.of("3x7;s10;p13");
        Due.is("2", one.side(0, 1), 2);
        Due.is("2, the other way round", one.side(1, 0), 2);
        PinAtlas late = Due.of("7x6;s64r;s25d");
        Due.is("60", late.side(0, 1), 60);
        PinAtlas tooLate = Due.of("7x6;s62u;s53d;s11l;s22r");
        Due.is("61: none", tooLate.side(0, 1), NONE);
        tooLate.days(1);
        Due.is("60, a day later", tooLate.side(0, 1), 60);
        Doc.asks("Promise 22", "SIDE BY SIDE; NONE. BAD: alike, too.");
        int[][] bad = {{0, 0}, {6, 6}, {-1, 0}, {0, -1}, {7, 0}, {0, 7}, {MIN, MAX}, {-1, -1}};
        for (int[] b : bad) {
            Due.is("pins " + b[0] + ", " + b[1], x.side(b[0], b[1]), BAD);
        }
        Due.is("the last pin", x.side(3, 6), 0);
        // On whichever CELL the other one is: one that is OUT is not FAR by any number.
        for (int columns = 3; columns <= 7; columns++) {
            for (int c = 0; c < 3 * columns; c++) {
                PinAtlas out = new PinAtlas();
                out.cushion(3, columns);
                out.pin(0, c);
                out.pin(0, (c + 1) % (3 * columns));
                out.out(1);
                Due.is("the second is out", out.side(0, 1), NONE);
                Due.is("the first is out", out.side(1, 0), NONE);
                out.out(0);
                Due.is("both are out", out.side(0, 1), NONE);
            }
        }
    }

    private static void hole() {
        Doc.asks(T, "HOLE for a PIN, a CELL: the CELL (without PIN, HOLE) which should have a HOLE now so that it comes to that CELL soonest ");
        PinAtlas x = Due.of("5x5;m22;p44");
        int[] beside = {7, 11, 13, 17};
        for (int c : beside) {
            Due.is("beside it, in 1 day: " + c, x.hole(0, c, 1), 1);
        }
        Due.is("the corner", x.hole(0, 0, 1), 4);
        Due.is("the corner itself", x.hole(0, 0, 0), 0);
        PinAtlas one = Due.of("3x3;m00;p01;o02;o10;o11;o12;o20;o21");
        Due.is("the last cell alone is free", one.hole(0, 0, 0), 8);
        PinAtlas none = Due.of("3x3;m00;p01;o02;o10;o11;o12;o20;o21;o22");
        Due.is("no cell is free, though it is there", none.hole(0, 0, 0), NONE);
        Due.is("no cell is free, what 1", none.hole(0, 0, 1), NONE);
        PinAtlas there = Due.of("3x3;m02;o00");
        Due.is("the first cell has one already", there.hole(0, 0, 0), 1);
        Due.is("in 2 days", there.hole(0, 0, 1), 2);
        PinAtlas under = Due.of("3x3;m02;p00");
        Due.is("on the first cell is a pin", under.hole(0, 1, 0), 1);
        Due.is("in 1 day", under.hole(0, 1, 1), 1);
        PinAtlas own = Due.of("3x3;m00;s22");
        Due.is("on its own cell is a pin, itself", own.hole(0, 0, 0), 1);
        Doc.asks(T, ", of like ones the first; behind how many DAYS; none: by none does it come. ");
        Due.is("0 days: it is there, the first cell", x.hole(0, 12, 0), 0);
        Due.is("0 days", x.hole(0, 12, 1), 0);
        // 11 on the way to 10: a HOLE on either brings it to 11 in a day.
        Due.is("the first of those by which it goes left", x.hole(0, 11, 0), 10);
        Due.is("up: the first cell of all", x.hole(0, 7, 0), 0);
        Due.is("where a pin is", x.hole(0, 24, 0), NONE);
        Due.is("where a pin is, what 1", x.hole(0, 24, 1), NONE);
        Due.is("a port", x.hole(1, 0, 0), NONE);
        Due.is("a port, where it is", x.hole(1, 24, 1), 0);
        Doc.asks("Promise 23", "HOLE: the CELL (what 0), behind how many (1); NONE. BAD.");
        for (int odd : new int[] {-1, -4, 25, MIN, MAX}) {
            Due.is("cell " + odd, x.hole(0, odd, 0), BAD);
        }
        for (int odd : new int[] {-1, 2, MIN, MAX}) {
            Due.is("pin " + odd, x.hole(odd, 0, 0), BAD);
            Due.is("what " + odd, x.hole(0, 0, odd), BAD);
        }
        x.out(0);
        Due.is("out", x.hole(0, 12, 0), NONE);
        Due.is("out, what 1", x.hole(0, 12, 1), NONE);
    }

    private static void holeWithin() {
        Doc.asks(T, "(within 60 DAYS), of like ones the first; behind how many DAYS; none: by none does it come. ");
        PinAtlas x = Due.of("6x6;r32l;o30;o55;o34;o22;o13;o25;o42;o31;o33;o52;o12;o35;o40;o04;o14");
        Due.is("61: none", x.hole(0, 0, 0), NONE);
        Due.is("61: none, what 1", x.hole(0, 0, 1), NONE);
        x.days(1);
        Due.is("60, a day later", x.hole(0, 0, 1), 60);
        Due.is("by a hole on", x.hole(0, 0, 0), 0);
        x.pin(0, 0);
        x.out(1);
        Due.is("with that hole it comes so", x.comes(0, 0), 60);
    }

    private static void cuts() {
        Doc.asks(T, "CUTS for a PIN, a CELL: the fewest THREADS (not CUT) to be CUT now so that it comes there ");
        PinAtlas six = Due.of("3x7;s10;p00;t01=3;t01=3;t01=3;t01=3;t01=3;t01=3");
        Due.is("none: it is there", six.cuts(0, 7, 0), 0);
        Due.is("the empty set", six.cuts(0, 7, 1), 0);
        Due.is("none: it comes there", six.cuts(0, 9, 0), 0);
        Due.is("all six", six.cuts(0, 10, 0), 6);
        Due.is("all six, which", six.cuts(0, 10, 1), 63);
        six.cut(0);
        six.cut(5);
        Due.is("the four that are not cut", six.cuts(0, 10, 0), 4);
        Due.is("which", six.cuts(0, 10, 1), 30);
        Due.is("by none", six.cuts(0, 0, 0), NONE);
        PinAtlas fewest = Due.of("3x7;s10;s22;p20;t01=3;t01=3;t12=2");
        Due.is("one that is a later one, not two", fewest.cuts(0, 13, 0), 1);
        Due.is("which", fewest.cuts(0, 13, 1), 4);
        PinAtlas idle = Due.of("3x7;s16l;p10;p23;t02=2");
        Due.is("one that does not hold yet", idle.count(7), 0);
        Due.is("it will be in the way", idle.cuts(0, 8, 1), 1);
        PinAtlas out = Due.of("3x7;s10;p00;t01=3");
        out.out(1);
        Due.is("its other pin is out: none", out.cuts(0, 13, 0), 0);
        Doc.asks(T, ", of like ones the least set: how many; which; none. ");
        PinAtlas like = Due.of("3x7;s10;s22;p20;t01=3;t12=2");
        Due.is("either", like.cuts(0, 13, 0), 1);
        Due.is("the least", like.cuts(0, 13, 1), 1);
        PinAtlas pairs = Due.of("3x7;s10;s22;p20;t01=3;t12=2;t12=2;t01=3");
        Due.is("either two", pairs.cuts(0, 13, 0), 2);
        Due.is("1 and 2 are less than 0 and 3", pairs.cuts(0, 13, 1), 6);
        Doc.asks("Promise 24", "CUTS: how many (what 0), which (1); NONE. BAD.");
        for (int odd : new int[] {-1, -4, 21, MIN, MAX}) {
            Due.is("cell " + odd, like.cuts(0, odd, 0), BAD);
        }
        for (int odd : new int[] {-1, 3, MIN, MAX}) {
            Due.is("pin " + odd, like.cuts(odd, 0, 0), BAD);
        }
        for (int odd : new int[] {-1, 2, MIN, MAX}) {
            Due.is("what " + odd, like.cuts(0, 13, odd), BAD);
        }
        Due.is("none", like.cuts(0, 0, 0), NONE);
        Due.is("none, which", like.cuts(0, 0, 1), NONE);
        Due.is("with no thread", Due.of("3x7;s10").cuts(0, 8, 1), 0);
        like.out(0);
        Due.is("out", like.cuts(0, 7, 0), NONE);
        Due.is("out, which", like.cuts(0, 7, 1), NONE);
    }

    private static void cutsWithin() {
        Doc.asks(T, "within 60 DAYS, of like ones the least set: how many; which; none. ");
        PinAtlas x = Due.of("7x7;s61u;s54l;s11r;r35r;o03;o22;o51;o42;o40;o56;o45;o53;o00;o36;o66;o14;o06;o25;o05;o16;o63;t20=1");
        Due.is("61: none", x.cuts(3, 46, 0), NONE);
        Due.is("61: none, which", x.cuts(3, 46, 1), NONE);
        x.days(1);
        Due.is("60, a day later", x.cuts(3, 46, 0), 1);
        Due.is("60, a day later, which", x.cuts(3, 46, 1), 1);
        Due.is("with it not cut", x.comes(3, 46), NONE);
        x.cut(0);
        Due.is("cut, it comes so", x.comes(3, 46), 60);
        Due.is("no more need be cut", x.cuts(3, 46, 0), 0);
    }

    private static void place() {
        Doc.asks(T, "PLACE for a PIN that is OUT, a CELL: the CELL on which it should be PUT now so that it comes to that CELL soonest ");
        PinAtlas x = Due.of("3x3;s00;p11;o22");
        x.out(0);
        for (int c = 0; c < 9; c++) {
            Due.is("itself, by 0 days, where no pin is: " + c, x.place(0, c, 0), c == 4 ? NONE : c);
            Due.is("behind how many: " + c, x.place(0, c, 1), c == 4 ? NONE : 0);
        }
        Doc.asks(T, "; behind how many; none. ");
        // The needle leaves 9 on the first day, ahead of the ship.
        PinAtlas y = Due.of("5x4;n21;s00");
        y.out(1);
        Due.is("a pin that leaves is there", y.place(1, 9, 0), 8);
        Due.is("in 1 day", y.place(1, 9, 1), 1);
        y.course(1, 2);
        Due.is("from the other side", y.place(1, 9, 0), 10);
        y.course(1, 0);
        Due.is("from below", y.place(1, 9, 0), 13);
        y.course(1, 1);
        Due.is("from above, once the needle is past it", y.place(1, 9, 1) > 0 ? 1 : 0, 1);
        PinAtlas mission = Due.of("3x3;m00;n21;o01;o20;o22");
        mission.out(0);
        Due.is("of like ones the first: on a hole", mission.place(0, 1, 0), 1);
        Doc.asks("Promise 25", "PLACE: the CELL (what 0), behind how many (1); NONE. BAD; ");
        for (int odd : new int[] {-1, -4, 9, MIN, MAX}) {
            Due.is("cell " + odd, x.place(0, odd, 0), BAD);
        }
        for (int odd : new int[] {-1, 2, MIN, MAX}) {
            Due.is("pin " + odd, x.place(odd, 0, 0), BAD);
            Due.is("what " + odd, x.place(0, 0, odd), BAD);
        }
        PinAtlas shut = Due.of("3x3;s00;p11");
        shut.out(0);
        Due.is("where a port is: none", shut.place(0, 4, 0), NONE);
        Due.is("where a port is: none, what 1", shut.place(0, 4, 1), NONE);
        Doc.asks("Promise 25", "NOT: it is not OUT.");
        for (int c = 0; c < 9; c++) {
            Due.is("it is not out", shut.place(1, c, c % 2), NOT);
        }
        shut.put(0, 0);
        Due.is("it is not any more", shut.place(0, 0, 0), NOT);
    }

    private static void placeWithin() {
        Doc.asks(T, "(within 60 DAYS), of like ones the first; behind how many; none. ");
        PinAtlas x = Due.of("7x7;r65;m01;p11;s34l;o21;o05;o33;o42;o36;o46;o51;o24;o41;o32;o60;o64;o40;o26;o61;o66;o62");
        x.out(3);
        Due.is("60", x.place(3, 1, 1), 60);
        Due.is("60, on", x.place(3, 1, 0), 0);
        x.put(3, 0);
        Due.is("put there it comes so", x.comes(3, 1), 60);
        PinAtlas y = Due.of("7x7;r44;m01;p11;s46r;o21;o05;o63;o24;o65;o45;o40;o42;o50;o33;o32;o36;o41;o54;o26;o20;o34;o56;o53;o60");
        y.out(3);
        Due.is("61: none", y.place(3, 1, 1), NONE);
        Due.is("61: none, what 0", y.place(3, 1, 0), NONE);
        y.put(3, 0);
        Due.is("put there it does not come", y.comes(3, 1), NONE);
        y.days(1);
        Due.is("a day later it comes in 60", y.comes(3, 1), 60);
    }

    private static void nearest() {
        Doc.asks(T, "NEAREST: the HOLE nearest to a CELL, of like ones the first; how FAR; none. ");
        String[] holes = {";o23", ";o32", ";o34", ";o43"};
        int[] cells = {17, 23, 25, 31};
        String left = "";
        for (int k = 3; k >= 0; k--) {
            left = holes[k] + left;
            PinAtlas x = Due.of("7x7;p33;o00" + left);
            Due.is("of like ones the first", x.nearest(24, 0), cells[k]);
            Due.is("how far", x.nearest(24, 1), 1);
        }
        Due.is("a later one that is nearer", Due.of("7x7;o00;o66").nearest(27, 0), 48);
        PinAtlas far = Due.of("7x7;o00;o66");
        Due.is("its own cell", far.nearest(48, 0), 48);
        Due.is("far by 0", far.nearest(48, 1), 0);
        Due.is("its own cell 0", far.nearest(0, 0), 0);
        Due.is("like far from both: the first", far.nearest(6, 0), 0);
        PinAtlas corner = Due.of("7x7;o66");
        Due.is("as far as may be", corner.nearest(0, 1), 12);
        Due.is("the last cell", corner.nearest(0, 0), 48);
        Doc.asks("Promise 26", "NEAREST: the CELL (what 0), how FAR (1); NONE. BAD.");
        Due.is("none", Due.of("7x7").nearest(48, 0), NONE);
        Due.is("none, how far", Due.of("7x7").nearest(48, 1), NONE);
        for (int odd : new int[] {-1, -4, 49, MIN, MAX}) {
            Due.is("cell " + odd, far.nearest(odd, 0), BAD);
        }
        for (int odd : new int[] {-1, 2, MIN, MAX}) {
            Due.is("what " + odd, far.nearest(0, odd), BAD);
        }
    }

    private static final String CHAIN = "7x7;p00;p01;p02;p03;p04;p05;p06;t56=1;t45=1;t34=1;t23=1;t12=1;t01=1";

    private static void bound() {
        Doc.asks(T, "BOUND to a PIN: PINS (a set, itself too) to which THREADS that HOLD lead, one behind the other. ");
        PinAtlas x = Due.of(CHAIN);
        for (int p = 0; p < 7; p++) {
            Due.is("all seven, from pin " + p, x.bound(p), 127);
        }
        x.cut(2);
        Due.is("cut in the midst, the first", x.bound(0), 15);
        Due.is("cut in the midst, the last", x.bound(6), 112);
        x.out(5);
        Due.is("one is out", x.bound(6), 64);
        Due.is("it is bound to itself alone", x.bound(5), 32);
        Due.is("with no thread", Due.of("3x3;p00").bound(0), 1);
        PinAtlas slack = Due.of("3x3;p00;p02;t01=1");
        Due.is("a thread that does not hold", slack.bound(0), 1);
        Doc.asks("Promise 27", "BOUND (a set). BAD.");
        for (int odd : new int[] {-1, 7, MIN, MAX}) {
            Due.is("pin " + odd, x.bound(odd), BAD);
        }
    }

    private static void between() {
        Doc.asks(T, "THREADS between two PINS: the fewest that lead from the one to the other; none. ");
        PinAtlas x = Due.of(CHAIN);
        for (int p = 0; p < 7; p++) {
            for (int q = 0; q < 7; q++) {
                if (p != q) {
                    Due.is("from " + p + " to " + q, x.between(p, q), Math.abs(p - q));
                }
            }
        }
        x.cut(3);
        Due.is("cut: none", x.between(0, 6), NONE);
        Due.is("cut: none, beside it", x.between(2, 3), NONE);
        Due.is("up to there", x.between(0, 2), 2);
        PinAtlas ring = Due.of("3x3;p00;p01;p02;p12;p22;p21;t01=1;t12=1;t23=1;t34=1;t45=1;t50=3");
        Due.is("round a ring, half of it", ring.between(0, 3), 3);
        Due.is("round a ring, the shorter way", ring.between(0, 4), 2);
        Due.is("round a ring, beside", ring.between(0, 5), 1);
        PinAtlas twice = Due.of("3x3;p00;p01;t01=1;t01=1");
        Due.is("two between the same: the fewest", twice.between(0, 1), 1);
        Doc.asks("Promise 28", "THREADS between two; NONE. BAD: alike, too.");
        int[][] bad = {{0, 0}, {6, 6}, {-1, 0}, {0, -1}, {7, 0}, {0, 7}, {MIN, MAX}, {-1, -1}};
        for (int[] b : bad) {
            Due.is("pins " + b[0] + ", " + b[1], x.between(b[0], b[1]), BAD);
        }
        x.out(1);
        Due.is("out", x.between(0, 1), NONE);
        Due.is("out on the way", x.between(0, 2), NONE);
    }

    private static void alone() {
        Doc.asks(T, "ALONE: PINS (a set), not OUT, to which no THREAD that HOLDS leads. ");
        Due.is("no pin", new PinAtlas().which(0), 0);
        PinAtlas x = Due.of(CHAIN);
        Due.is("none", x.which(0), 0);
        x.out(5);
        Due.is("the last one", x.which(0), 64);
        x.cut(5);
        Due.is("the first one, too", x.which(0), 65);
        x.out(0);
        Due.is("it is out", x.which(0), 64);
        PinAtlas seven = Due.of("3x3;p00;p01;p02;p10;p11;p12;p20;t06=1");
        Due.is("all seven: the thread does not hold", seven.which(0), 127);
        for (int p = 0; p < 7; p++) {
            for (int q = p + 1; q < 7; q++) {
                PinAtlas two = Due.of("3x3;p00;p01;p02;p10;p11;p12;p20;t" + q + p + "=12");
                Due.is("all but " + p + " and " + q, two.which(0), 127 - (1 << p) - (1 << q));
                Due.is("these two are bound", two.bound(p), (1 << p) + (1 << q));
                Due.is("by one thread", two.between(p, q), 1);
            }
        }
        Doc.asks("Promise 29", "ALONE (what 0), TAUT (1): a set. BAD.");
        for (int odd : new int[] {-1, 2, MIN, MAX}) {
            Due.is("what " + odd, x.which(odd), BAD);
        }
    }

    private static void taut() {
        Doc.asks(T, "TAUT: THREADS (a set) that HOLD, whose PINS are FAR by just as much as they are LONG. ");
        Due.is("no thread", new PinAtlas().which(1), 0);
        PinAtlas x = Due.of("7x7;p00;p66;p03;t01=12;t01=11;t02=2;t02=3;t02=4;t20=3");
        Due.is("just as long", x.which(1), 41);
        x.cut(5);
        Due.is("cut", x.which(1), 9);
        x.out(1);
        Due.is("out", x.which(1), 8);
        x.put(1, 47);
        Due.is("nearer by 1", x.which(1), 10);
        Due.is("all six", Due.of(CHAIN).which(1), 63);
    }

    private static void breaks() {
        Doc.asks(T, "BREAK by c of 10 (0 .. 10): each THREAD that HOLDS is CUT now by c of 10, apart: ");
        PinAtlas x = Due.of("3x7;s10;p00;t01=1;t01=1");
        for (int c = 0; c <= 10; c++) {
            long above = (long) c * c;
            Due.is("both by " + c, x.breaks(0, 8, 1, c, 0) * 100L, above * x.breaks(0, 8, 1, c, 1));
            Due.is("not both by " + c, x.breaks(0, 7, 1, c, 0) * 100L, (100 - above) * x.breaks(0, 7, 1, c, 1));
        }
        PinAtlas idle = Due.of("3x7;s10;p00;p26;p20;t01=1;t02=1;t03=1;t03=1");
        idle.cut(3);
        Due.is("those that do not hold are not asked", idle.breaks(0, 8, 1, 5, 1), 4);
        Doc.asks(T, "how likely a PIN is on a told CELL behind n DAYS (0 .. 30): a fraction in lowest terms.");
        takes("days", 0, 30, n -> x.breaks(0, 8, n, 5, 0));
        takes("c", 0, 10, c -> x.breaks(0, 8, 30, c, 0));
        PinAtlas y = Due.of("3x7;s10;p00;t01=3");
        PinAtlas z = Due.of("3x7;s10;p00");
        for (int n = 0; n <= 30; n++) {
            Due.is("never cut, behind " + n, y.breaks(0, y.ahead(0, n), n, 0, 0), 1);
            Due.is("ever cut, behind " + n, y.breaks(0, z.ahead(0, n), n, 10, 0), 1);
            Due.is("one of these", y.breaks(0, y.ahead(0, n), n, 10, 0), y.ahead(0, n) == z.ahead(0, n) ? 1 : 0);
        }
        Doc.asks("Promise 30", "BREAK: above (what 0), below (1). BAD.");
        for (int odd : new int[] {-1, -4, 21, MIN, MAX}) {
            Due.is("cell " + odd, y.breaks(0, odd, 0, 0, 0), BAD);
        }
        for (int odd : new int[] {-1, 2, MIN, MAX}) {
            Due.is("pin " + odd, y.breaks(odd, 0, 0, 0, 0), BAD);
            Due.is("what " + odd, y.breaks(0, 0, 0, 0, odd), BAD);
        }
        for (int odd : new int[] {-1, 31, MIN, MAX}) {
            Due.is("days " + odd, y.breaks(0, 0, odd, 0, 0), BAD);
        }
        for (int odd : new int[] {-1, 11, MIN, MAX}) {
            Due.is("c " + odd, y.breaks(0, 0, 0, odd, 0), BAD);
        }
    }

    private static void fraction(String what, PinAtlas x, int cell, int c, int above, int below) {
        Due.is(what + ", above", x.breaks(0, cell, 1, c, 0), above);
        Due.is(what + ", below", x.breaks(0, cell, 1, c, 1), below);
    }

    private static void breaksInLowestTerms() {
        Doc.asks(T, "a fraction in lowest terms.");
        PinAtlas one = Due.of("3x7;s10;p00;t01=1");
        int[][] tenths = {{0, 1}, {1, 10}, {1, 5}, {3, 10}, {2, 5}, {1, 2}, {3, 5}, {7, 10}, {4, 5}, {9, 10}, {1, 1}};
        for (int c = 0; c <= 10; c++) {
            fraction(c + " of 10", one, 8, c, tenths[c][0], tenths[c][1]);
            fraction("not " + c + " of 10", one, 7, c, tenths[10 - c][0], tenths[10 - c][1]);
        }
        fraction("nowhere", one, 0, 5, 0, 1);
        PinAtlas none = Due.of("3x7;s10;p00");
        fraction("no thread", none, 8, 5, 1, 1);
        fraction("no thread, nowhere", none, 7, 5, 0, 1);
        PinAtlas six = Due.of("3x7;s10;p00;t01=1;t01=1;t01=1;t01=1;t01=1;t01=1");
        fraction("six by 1", six, 8, 1, 1, 1000000);
        fraction("not six by 1", six, 7, 1, 999999, 1000000);
        fraction("six by 9", six, 8, 9, 531441, 1000000);
        fraction("six by 5", six, 8, 5, 1, 64);
        fraction("six by 2", six, 8, 2, 1, 15625);
        fraction("six by 8", six, 8, 8, 4096, 15625);
        fraction("six by 10", six, 8, 10, 1, 1);
        fraction("not six by 10", six, 7, 10, 0, 1);
        fraction("six by 0", six, 7, 0, 1, 1);
        six.out(0);
        fraction("out", six, 7, 5, 0, 1);
    }

    /** Seven pins, six threads, a hole to each other cell: nobody can go but to a hole, and no cell is without. */
    private static void fullCushion() {
        Doc.asks(T, "2 FORETOLD from now (nothing is changed): ");
        PinAtlas x = Due.of("3x3;p00;p01;p02;p10;p11;p12;m20;o21;o22;t01=1;t12=1;t34=1;t45=1;t36=1;t03=1");
        Due.is("behind 1 day", x.ahead(6, 1), 6);
        Due.is("its thread holds it", x.of(6, 3), 0);
        Due.is("holes behind 60 days", x.holes(60), 2);
        for (int c = 0; c < 9; c++) {
            Due.is("hole: no cell is free, " + c, x.hole(6, c, 0), NONE);
            Due.is("comes to " + c, x.comes(6, c), c == 6 ? 0 : NONE);
            Due.is("cuts for " + c, x.cuts(6, c, 1), c == 6 ? 0 : c > 6 ? 16 : NONE);
        }
        Due.is("all are bound", x.bound(6), 127);
        Due.is("the farthest", x.between(6, 2), 4);
        Due.is("nobody is alone", x.which(0), 0);
        Due.is("all are taut", x.which(1), 63);
        Due.is("of six threads one matters", x.breaks(6, 7, 30, 3, 0), 0);
        Due.is("behind 1 day", x.breaks(6, 7, 1, 3, 0) * 10 + x.breaks(6, 7, 1, 3, 1), 40);
        Due.is("behind 2 days", x.breaks(6, 8, 2, 7, 0) * 100 + x.breaks(6, 8, 2, 7, 1), 710);
        x.out(6);
        Due.is("put on a hole beside it", x.place(6, 7, 0), 7);
        Due.is("where a port is", x.place(6, 5, 0), NONE);
        Due.is("the nearest of three holes", x.nearest(6, 0), 6);
    }
}
