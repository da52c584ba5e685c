/** Promises 19 to 30: ahead, holes, comes, side, hole, cuts, place, nearest, bound, between, which, breaks. */
public final class ForetoldTest {
    public static void main(String[] args) {
        ahead();
        holes();
        comes();
        side();
        hole();
        cuts();
        place();
        nearest();
        bound();
        between();
        which();
        breaks();
        Due.end();
    }

    private static void ahead() {
        PinAtlas x = Due.of("3x4;s10;n21;r03;o23;p20");
        // Behind day 2 the rusty pin still is on 7.
        int[] ship = {4, 5, 6, 6, 5, 4, 4, 5, 6};
        for (int n = 0; n < ship.length; n++) {
            Due.is("ahead(0, " + n + ")", x.ahead(0, n), ship[n]);
        }
        Due.is("ahead(1, 1): the ship is in its way", x.ahead(1, 1), 9);
        Due.is("ahead(1, 2)", x.ahead(1, 2), 5);
        Due.is("ahead(1, 60)", x.ahead(1, 60), 1);
        Due.is("ahead(2, 1)", x.ahead(2, 1), 7);
        Due.is("ahead(3, 60)", x.ahead(3, 60), 8);
        x.days(1);
        Due.is("an odd day: ahead(2, 1)", x.ahead(2, 1), 7);
        Due.is("nothing is changed: the day", x.count(4), 1);
        Due.is("nothing is changed: undoable", x.count(8), 1);
        Due.is("nothing is changed: the ship", x.of(0, 1), 5);
        x.out(0);
        Due.is("out", x.ahead(0, 0), PinAtlas.NONE);
        Due.is("out, later", x.ahead(0, 60), PinAtlas.NONE);
        Due.is("ahead(-1, 0)", x.ahead(-1, 0), PinAtlas.BAD);
        Due.is("ahead(4, 0)", x.ahead(4, 0), PinAtlas.BAD);
        Due.is("ahead(0, -1)", x.ahead(0, -1), PinAtlas.BAD);
        Due.is("ahead(0, 61)", x.ahead(0, 61), PinAtlas.BAD);
    }

    private static void holes() {
        PinAtlas x = Due.of("5x5;m00;o02;o40");
        Due.is("holes(0)", x.holes(0), 2);
        Due.is("holes(1)", x.holes(1), 2);
        Due.is("holes(2)", x.holes(2), 1);
        Due.is("holes(7)", x.holes(7), 1);
        Due.is("holes(8)", x.holes(8), 0);
        Due.is("holes(60)", x.holes(60), 0);
        Due.is("holes(61)", x.holes(61), PinAtlas.BAD);
        Due.is("holes(-1)", x.holes(-1), PinAtlas.BAD);
        Due.is("nothing is changed", x.count(5), 2);
    }

    private static void comes() {
        PinAtlas x = Due.of("3x4;s10;p23");
        Due.is("comes(0, 4)", x.comes(0, 4), 0);
        Due.is("comes(0, 7)", x.comes(0, 7), 3);
        Due.is("comes(0, 8)", x.comes(0, 8), PinAtlas.NONE);
        Due.is("comes(1, 11)", x.comes(1, 11), 0);
        Due.is("comes(1, 7)", x.comes(1, 7), PinAtlas.NONE);
        Due.is("comes(0, 12)", x.comes(0, 12), PinAtlas.BAD);
        Due.is("comes(0, -1)", x.comes(0, -1), PinAtlas.BAD);
        Due.is("comes(0, -4)", x.comes(0, -4), PinAtlas.BAD);
        Due.is("comes(2, 0)", x.comes(2, 0), PinAtlas.BAD);
        Due.is("comes(-1, 0)", x.comes(-1, 0), PinAtlas.BAD);
        x.out(0);
        Due.is("out", x.comes(0, 4), PinAtlas.NONE);
        // Thirty steps of a rusty pin, from hole to hole, two days each.
        String grid = ";o02;o04;o06;o20;o22;o24;o26;o40;o42;o44;o46;o60;o62;o64;o66";
        PinAtlas late = Due.of("7x7" + grid);
        late.days(1);
        late.pin(2, 0);
        Due.is("just within 60 days", late.comes(0, 42), 60);
        Due.is("its cell then", late.ahead(0, 60), 42);
        Due.is("holes a day ahead of that", late.holes(59), 1);
        PinAtlas tooLate = Due.of("7x7;r10;o00" + grid);
        Due.is("61 days would be needed", tooLate.comes(0, 42), PinAtlas.NONE);
        Due.is("one step is left", tooLate.ahead(0, 60), 43);
        tooLate.days(1);
        Due.is("60 are, a day later", tooLate.comes(0, 42), 60);
    }

    private static void side() {
        PinAtlas x = Due.of("3x5;s10;p14;p03;p00");
        Due.is("side(0, 1)", x.side(0, 1), 3);
        Due.is("side(1, 0)", x.side(1, 0), 3);
        Due.is("side(0, 2)", x.side(0, 2), 3);
        Due.is("side(0, 3)", x.side(0, 3), 0);
        Due.is("side(1, 2): aslant is not beside", x.side(1, 2), PinAtlas.NONE);
        Due.is("side(0, 0)", x.side(0, 0), PinAtlas.BAD);
        Due.is("side(0, 4)", x.side(0, 4), PinAtlas.BAD);
        Due.is("side(-1, 0)", x.side(-1, 0), PinAtlas.BAD);
        x.out(3);
        Due.is("out", x.side(0, 3), PinAtlas.NONE);
        Due.is("out, the other way", x.side(3, 0), PinAtlas.NONE);
        x.out(2);
        Due.is("both out", x.side(3, 2), PinAtlas.NONE);
        Due.is("both out and alike", x.side(3, 3), PinAtlas.BAD);
        PinAtlas corner = Due.of("3x4;p00;p11");
        corner.out(1);
        Due.is("out, with one on cell 0", corner.side(0, 1), PinAtlas.NONE);
        PinAtlas late = Due.of("7x6;s64r;s25d");
        Due.is("two ships, just within 60 days", late.side(0, 1), 60);
        PinAtlas tooLate = Due.of("7x6;s62u;s53d;s11l;s22r");
        Due.is("61 days would be needed", tooLate.side(0, 1), PinAtlas.NONE);
        tooLate.days(1);
        Due.is("60 are, a day later", tooLate.side(0, 1), 60);
    }

    private static void hole() {
        PinAtlas x = Due.of("5x5;m00;p44");
        Due.is("to its own cell: the first free one", x.hole(0, 0, 0), 1);
        Due.is("in 0 days", x.hole(0, 0, 1), 0);
        Due.is("to 12: the first that leads there soonest", x.hole(0, 12, 0), 12);
        Due.is("in 4", x.hole(0, 12, 1), 4);
        Due.is("to 10: the first below it on the way", x.hole(0, 10, 0), 10);
        Due.is("in 2", x.hole(0, 10, 1), 2);
        Due.is("to 5: 5 itself", x.hole(0, 5, 0), 5);
        Due.is("where a pin is: none", x.hole(0, 24, 0), PinAtlas.NONE);
        Due.is("where a pin is: none, what 1", x.hole(0, 24, 1), PinAtlas.NONE);
        Due.is("a port: none", x.hole(1, 12, 0), PinAtlas.NONE);
        Due.is("a port on its cell", x.hole(1, 24, 0), 1);
        PinAtlas way = Due.of("3x5;m10;p12");
        Due.is("past a port: never", way.hole(0, 8, 1), PinAtlas.NONE);
        PinAtlas bend = Due.of("5x5;m22;p11;o02");
        Due.is("with a hole it has", bend.comes(0, 2), 2);
        Due.is("to 7 it is under way", bend.hole(0, 7, 0), 0);
        Due.is("in 1", bend.hole(0, 7, 1), 1);
        Due.is("away from it", bend.hole(0, 13, 0), 13);
        Due.is("in 1, too", bend.hole(0, 13, 1), 1);
        Due.is("a cell with a hole is none", bend.hole(0, 2, 0), 0);
        Due.is("nothing is changed", bend.count(5), 1);
        PinAtlas full = Due.of("3x3;m00;p01;o02;o10;o11;o12;o20;o21;o22");
        Due.is("no cell is free", full.hole(0, 0, 0), PinAtlas.NONE);
        Due.is("hole(2, ..)", x.hole(2, 0, 0), PinAtlas.BAD);
        Due.is("hole(-1, ..)", x.hole(-1, 0, 0), PinAtlas.BAD);
        Due.is("hole(0, 25, 0)", x.hole(0, 25, 0), PinAtlas.BAD);
        Due.is("hole(0, 0, 2)", x.hole(0, 0, 2), PinAtlas.BAD);
        Due.is("hole(0, 0, -1)", x.hole(0, 0, -1), PinAtlas.BAD);
        x.out(0);
        Due.is("out", x.hole(0, 0, 0), PinAtlas.NONE);
    }

    private static void cuts() {
        PinAtlas x = Due.of("3x7;s10;p00;p20;p06;t01=3;t02=4;t03=7");
        Due.is("none need be cut: cuts(0, 9, 0)", x.cuts(0, 9, 0), 0);
        Due.is("the empty set", x.cuts(0, 9, 1), 0);
        Due.is("one: cuts(0, 10, 0)", x.cuts(0, 10, 0), 1);
        Due.is("which", x.cuts(0, 10, 1), 1);
        Due.is("two: cuts(0, 13, 0)", x.cuts(0, 13, 0), 2);
        Due.is("which two", x.cuts(0, 13, 1), 3);
        Due.is("by none: cuts(0, 0, 0)", x.cuts(0, 0, 0), PinAtlas.NONE);
        Due.is("by none, what 1", x.cuts(0, 0, 1), PinAtlas.NONE);
        x.cut(0);
        Due.is("one is cut already", x.cuts(0, 13, 0), 1);
        Due.is("it is not in the set", x.cuts(0, 13, 1), 2);
        PinAtlas like = Due.of("3x7;s10;s22;p20;t01=3;t12=2");
        Due.is("either thread would do", like.cuts(0, 13, 0), 1);
        Due.is("of like ones the least set", like.cuts(0, 13, 1), 1);
        like.cut(1);
        Due.is("the other one would, too", like.cuts(0, 13, 0), 0);
        like.undo();
        like.cut(0);
        Due.is("as does the first", like.cuts(0, 13, 0), 0);
        PinAtlas later = Due.of("3x7;s16l;p10;p23;t02=2");
        Due.is("one that does not hold yet may have to be cut", later.at(0, 4), 0);
        Due.is("cuts(0, 8, 0)", later.cuts(0, 8, 0), 1);
        Due.is("cuts(0, 8, 1)", later.cuts(0, 8, 1), 1);
        Due.is("cuts(3, 0, 0)", later.cuts(3, 0, 0), PinAtlas.BAD);
        Due.is("cuts(-1, 0, 0)", later.cuts(-1, 0, 0), PinAtlas.BAD);
        Due.is("cuts(0, 21, 0)", later.cuts(0, 21, 0), PinAtlas.BAD);
        Due.is("cuts(0, 0, 2)", later.cuts(0, 0, 2), PinAtlas.BAD);
        Due.is("nothing is cut", later.at(0, 3), 0);
        later.out(0);
        Due.is("out", later.cuts(0, 8, 0), PinAtlas.NONE);
    }

    private static void place() {
        PinAtlas x = Due.of("3x5;s10;s14l;p11;o22");
        Due.is("not out", x.place(0, 0, 0), PinAtlas.NOT);
        Due.is("BAD ahead of NOT", x.place(0, 15, 0), PinAtlas.BAD);
        Due.is("BAD ahead of NOT, what", x.place(0, 0, 2), PinAtlas.BAD);
        Due.is("place(3, 0, 0)", x.place(3, 0, 0), PinAtlas.BAD);
        Due.is("place(-1, 0, 0)", x.place(-1, 0, 0), PinAtlas.BAD);
        x.out(0);
        Due.is("right there", x.place(0, 7, 0), 7);
        Due.is("in 0 days", x.place(0, 7, 1), 0);
        Due.is("right on a hole", x.place(0, 12, 0), 12);
        Due.is("a port never leaves", x.place(0, 6, 0), PinAtlas.NONE);
        Due.is("a port never leaves, what 1", x.place(0, 6, 1), PinAtlas.NONE);
        x.course(0, 3);
        PinAtlas y = Due.of("3x5;s00;s14u;o22");
        y.out(0);
        // From 8 it would find the other ship still there on the first day, and turn.
        Due.is("a ship that goes up leaves 9: from 7", y.place(0, 9, 0), 7);
        Due.is("in 2 days", y.place(0, 9, 1), 2);
        Due.is("nothing is changed", y.of(0, 1), PinAtlas.NONE);
        PinAtlas late = Due.of("3x5;s14u;s00");
        late.out(1);
        Due.is("behind one that goes ahead of it", late.place(1, 9, 0), 8);
        Due.is("in 1 day", late.place(1, 9, 1), 1);
    }

    private static void nearest() {
        PinAtlas x = Due.of("5x5;o04;o40;o33;p12");
        Due.is("nearest(0, 0): of like ones the first", x.nearest(0, 0), 4);
        Due.is("nearest(0, 1)", x.nearest(0, 1), 4);
        Due.is("nearest(24, 0)", x.nearest(24, 0), 18);
        Due.is("nearest(24, 1)", x.nearest(24, 1), 2);
        Due.is("nearest(20, 0)", x.nearest(20, 0), 20);
        Due.is("nearest(20, 1)", x.nearest(20, 1), 0);
        Due.is("nearest(7, 0): where a pin is", x.nearest(7, 0), 4);
        Due.is("nearest(25, 0)", x.nearest(25, 0), PinAtlas.BAD);
        Due.is("nearest(-1, 0)", x.nearest(-1, 0), PinAtlas.BAD);
        Due.is("nearest(0, 2)", x.nearest(0, 2), PinAtlas.BAD);
        Due.is("nearest(0, -1)", x.nearest(0, -1), PinAtlas.BAD);
        Due.is("none", new PinAtlas().nearest(0, 0), PinAtlas.NONE);
        Due.is("none, what 1", new PinAtlas().nearest(0, 1), PinAtlas.NONE);
    }

    private static final String CHAIN = "7x7;p00;p01;p02;p03;p04;p66;p65;t43=1;t32=1;t21=1;t10=1;t04=3;t56=1";

    private static void bound() {
        PinAtlas x = Due.of(CHAIN);
        for (int p = 0; p < 5; p++) {
            Due.is("bound(" + p + ")", x.bound(p), 31);
        }
        Due.is("bound(5)", x.bound(5), 96);
        x.cut(1);
        Due.is("cut, bound(0)", x.bound(0), 7);
        Due.is("cut, bound(4)", x.bound(4), 24);
        x.out(1);
        Due.is("out, bound(0)", x.bound(0), 1);
        Due.is("out, bound(1)", x.bound(1), 2);
        Due.is("bound(7)", x.bound(7), PinAtlas.BAD);
        Due.is("bound(-1)", x.bound(-1), PinAtlas.BAD);
        PinAtlas long6 = Due.of("7x7;p00;p01;p02;p03;p04;p05;p06;t56=1;t45=1;t34=1;t23=1;t12=1;t01=1");
        Due.is("six threads one behind the other", long6.bound(0), 127);
        Due.is("from the other end", long6.bound(6), 127);
    }

    private static void between() {
        PinAtlas x = Due.of(CHAIN);
        Due.is("between(0, 1)", x.between(0, 1), 1);
        Due.is("between(0, 4)", x.between(0, 4), 4);
        Due.is("between(4, 0)", x.between(4, 0), 4);
        Due.is("between(4, 2)", x.between(4, 2), 2);
        Due.is("between(0, 5)", x.between(0, 5), PinAtlas.NONE);
        Due.is("between(0, 0)", x.between(0, 0), PinAtlas.BAD);
        Due.is("between(0, 7)", x.between(0, 7), PinAtlas.BAD);
        Due.is("between(-1, 0)", x.between(-1, 0), PinAtlas.BAD);
        x.thread(0, 4, 4);
        PinAtlas shorter = Due.of("7x7;p00;p01;p02;p03;p04;t01=1;t12=1;t23=1;t34=1;t04=4");
        Due.is("the fewest", shorter.between(0, 4), 1);
        Due.is("the fewest, round the other way", shorter.between(0, 3), 2);
        shorter.cut(4);
        Due.is("cut", shorter.between(0, 3), 3);
        shorter.out(2);
        Due.is("out", shorter.between(0, 3), PinAtlas.NONE);
        PinAtlas long6 = Due.of("7x7;p00;p01;p02;p03;p04;p05;p06;t56=1;t45=1;t34=1;t23=1;t12=1;t01=1");
        Due.is("six", long6.between(0, 6), 6);
        Due.is("six back", long6.between(6, 0), 6);
    }

    private static void which() {
        PinAtlas x = Due.of(CHAIN);
        Due.is("alone", x.which(0), 0);
        Due.is("taut", x.which(1), 47);
        x.out(1);
        Due.is("out: alone", x.which(0), 1);
        Due.is("out: taut", x.which(1), 35);
        x.cut(5);
        Due.is("cut: alone", x.which(0), 97);
        Due.is("cut: taut", x.which(1), 3);
        Due.is("which(2)", x.which(2), PinAtlas.BAD);
        Due.is("which(-1)", x.which(-1), PinAtlas.BAD);
        PinAtlas slack = Due.of("3x3;p00;p02;t01=3");
        Due.is("slack: alone", slack.which(0), 0);
        Due.is("slack: taut", slack.which(1), 0);
    }

    private static void breaks() {
        PinAtlas x = Due.of("3x7;s10;p00;p20;t01=3;t02=3");
        Due.is("not both break, on 9: above", x.breaks(0, 9, 3, 3, 0), 91);
        Due.is("below", x.breaks(0, 9, 3, 3, 1), 100);
        // Held to 9 as long as one holds: behind 3 days on 9 (turned), by both broken on 10.
        Due.is("both break, on 10: above", x.breaks(0, 10, 3, 3, 0), 9);
        Due.is("both break, on 10: below", x.breaks(0, 10, 3, 3, 1), 100);
        Due.is("half by half: above", x.breaks(0, 10, 3, 5, 0), 1);
        Due.is("half by half: below", x.breaks(0, 10, 3, 5, 1), 4);
        Due.is("never: above", x.breaks(0, 10, 3, 0, 0), 0);
        Due.is("never: below", x.breaks(0, 10, 3, 0, 1), 1);
        Due.is("ever: above", x.breaks(0, 10, 3, 10, 0), 1);
        Due.is("ever: below", x.breaks(0, 10, 3, 10, 1), 1);
        Due.is("now: above", x.breaks(0, 7, 0, 4, 0), 1);
        Due.is("now: below", x.breaks(0, 7, 0, 4, 1), 1);
        Due.is("elsewhere: above", x.breaks(0, 0, 30, 4, 0), 0);
        Due.is("elsewhere: below", x.breaks(0, 0, 30, 4, 1), 1);
        Due.is("nothing is cut", x.count(7), 3);
        Due.is("breaks(3, ..)", x.breaks(3, 0, 0, 0, 0), PinAtlas.BAD);
        Due.is("breaks(-1, ..)", x.breaks(-1, 0, 0, 0, 0), PinAtlas.BAD);
        Due.is("cell 21", x.breaks(0, 21, 0, 0, 0), PinAtlas.BAD);
        Due.is("cell -4", x.breaks(0, -4, 0, 0, 0), PinAtlas.BAD);
        Due.is("n 31", x.breaks(0, 0, 31, 0, 0), PinAtlas.BAD);
        Due.is("n -1", x.breaks(0, 0, -1, 0, 0), PinAtlas.BAD);
        Due.is("c 11", x.breaks(0, 0, 0, 11, 0), PinAtlas.BAD);
        Due.is("c -1", x.breaks(0, 0, 0, -1, 0), PinAtlas.BAD);
        Due.is("what 2", x.breaks(0, 0, 0, 0, 2), PinAtlas.BAD);
        Due.is("what -1", x.breaks(0, 0, 0, 0, -1), PinAtlas.BAD);
        x.out(0);
        Due.is("out: above", x.breaks(0, 7, 0, 4, 0), 0);
        Due.is("out: below", x.breaks(0, 7, 0, 4, 1), 1);
        PinAtlas none = Due.of("3x7;s10");
        Due.is("no thread: above", none.breaks(0, 8, 1, 7, 0), 1);
        Due.is("no thread: below", none.breaks(0, 8, 1, 7, 1), 1);
        PinAtlas six = Due.of("3x7;s10;p00;t01=1;t01=1;t01=1;t01=1;t01=1;t01=1");
        Due.is("six of them: above", six.breaks(0, 8, 1, 7, 0), 117649);
        Due.is("six of them: below", six.breaks(0, 8, 1, 7, 1), 1000000);
        Due.is("not all six: above", six.breaks(0, 7, 1, 7, 0), 1000000 - 117649);
        six.cut(0);
        Due.is("five of them: above", six.breaks(0, 8, 1, 4, 0), 32);
        Due.is("five of them: below", six.breaks(0, 8, 1, 4, 1), 3125);
    }
}
