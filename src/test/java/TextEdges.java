/** Cushions as texts: which letter can stand where, and promises 8 and 9. */
final class TextEdges extends Edges {
    private static final String T = "Terms";
    private static final String TWO = "3x3;p00;p01";
    private static final String SEVEN = "7x7;p00;s11;r22;n33;m44;p55;s66";

    static void look() {
        size();
        things();
        pins();
        holes();
        threads();
        numbers();
        atMost();
        inPlaceOfAll();
        faults();
        blanks();
        type();
        typeTells();
        read();
        readAgain();
    }

    /** Of each letter behind this text: whether it ends a whole one, or goes on, or is a fault. */
    private static void stands(String ahead, String whole, String goesOn) {
        for (int c = 33; c <= 126; c++) {
            String text = ahead + (char) c;
            int got = Due.read(new PinAtlas(), text);
            int spaced = Due.read(new PinAtlas(), ahead + "  " + (char) c + " ");
            if (whole.indexOf(c) >= 0) {
                Due.is("'" + text + "' is whole", got >= 0 ? 1 : 0, 1);
                Due.is("'" + text + "' is whole, with blanks", spaced, got);
            } else if (goesOn.indexOf(c) >= 0) {
                Due.is("'" + text + "', fault at the end", got, -20 - text.length());
                Due.is("'" + text + "', fault at the end, with blanks", spaced, -20 - text.length() - 3);
            } else {
                Due.is("'" + text + "', fault at its last letter", got, -20 - text.length() + 1);
                Due.is("'" + text + "', fault at its last letter, with blanks", spaced, -20 - text.length() - 1);
            }
        }
    }

    private static void size() {
        Doc.asks(T, "A CUSHION is a TEXT: a digit 3 .. 7 (ROWS), x, a digit 3 .. 7 (COLUMNS); ");
        stands("", "", "34567");
        stands("3", "", "x");
        stands("7", "", "x");
        stands("3x", "34567", "");
        stands("7x", "34567", "");
        for (int rows = 3; rows <= 7; rows++) {
            for (int columns = 3; columns <= 7; columns++) {
                PinAtlas x = Due.of(rows + "x" + columns);
                Due.is("rows", x.count(0), rows);
                Due.is("columns", x.count(1), columns);
                Due.is("nothing on it", x.count(2) + x.count(3) + x.count(5), 0);
            }
        }
    }

    private static void things() {
        Doc.asks(T, "then any of: ; and a PIN: p s r n m (KINDS in this order), a digit, a digit ");
        stands("3x3", "", ";");
        stands("3x3;", "", "psrnmot");
        for (int k = 0; k < 5; k++) {
            PinAtlas x = Due.of("3x3;" + "psrnm".charAt(k) + "12");
            Due.is("kind", x.of(0, 0), k);
            Due.is("cell", x.of(0, 1), 5);
            Due.is("course", x.of(0, 2), 3);
        }
        PinAtlas none = Due.of("3x3");
        Due.is("none of them", none.count(2) + none.count(3) + none.count(5), 0);
        PinAtlas x = Due.of("3x3;o22;p00;o21;p01;t01=1;p02;t21=2");
        Due.is("in any order, pins", x.count(2), 3);
        Due.is("in any order, holes", x.count(5), 2);
        Due.is("in any order, threads", x.count(3), 2);
        Due.is("pins as they come", x.cell(2), 2);
    }

    private static void pins() {
        Doc.asks(T, "(ROW, COLUMN, as there are; no PIN there, no HOLE: else at the second one), ");
        for (String kind : new String[] {"p", "s", "r", "n", "m"}) {
            stands("3x7;" + kind, "", "012");
            stands("7x3;" + kind, "", "0123456");
            stands("3x7;" + kind + "2", "0123456", "");
            stands("7x3;" + kind + "6", "012", "");
        }
        stands("5x4;p", "", "01234");
        stands("5x4;p4", "0123", "");
        stands("3x3;p00;s0", "12", "");
        stands("3x3;o00;s0", "12", "");
        stands("3x3;p22;s2", "01", "");
        stands("3x3;o22;s2", "01", "");
        stands("3x3;o20;p21;o22;s2", "", "");
        // No column is free, but the row may be told: the fault is at the second digit.
        Due.is("a row with no free cell", Due.read(new PinAtlas(), "3x3;p00;o01;m02;s00"), -38);
        Doc.asks(T, "then perhaps one of u d l r (COURSE up, down, to the left, to the right); ");
        stands("3x3;s00", "udlr", ";");
        for (int v = 0; v < 4; v++) {
            stands("3x3;s00" + "udlr".charAt(v), "", ";");
            Due.is("course", Due.of("3x3;s00" + "udlr".charAt(v)).of(0, 2), v);
        }
        Due.is("none: to the right", Due.of("3x3;s00").of(0, 2), 3);
        Due.is("its own, not the one ahead of it", Due.of("3x3;s00u;s01").of(1, 2), 3);
    }

    private static void holes() {
        Doc.asks(T, "; and a HOLE: o, a digit, a digit (ROW, COLUMN, likewise); ");
        stands("3x7;o", "", "012");
        stands("7x3;o", "", "0123456");
        stands("3x7;o2", "0123456", "");
        stands("7x3;o6", "012", "");
        stands("3x3;p00;o0", "12", "");
        stands("3x3;o00;o0", "12", "");
        stands("3x3;o22;o2", "01", "");
        // A HOLE has no COURSE.
        stands("3x3;o00", "", ";");
        PinAtlas x = Due.of("7x3;o62;o00");
        Due.is("the last cell", x.cell(20), 100);
        Due.is("the first cell", x.cell(0), 100);
        Due.is("how many", x.count(5), 2);
        PinAtlas all = Due.of("3x3;o00;o01;o02;o10;o11;o12;o20;o21;o22");
        Due.is("as many as cells", all.count(5), 9);
        Due.is("none more", Due.read(new PinAtlas(), "3x3;o00;o01;o02;o10;o11;o12;o20;o21;o22;o22"), -62);
    }

    private static void threads() {
        Doc.asks(T, "; and a THREAD: t, a digit, a digit (each of a PIN told ahead of it, unlike), ");
        stands("3x3;t", "", "");
        stands("3x3;p00;t", "", "0");
        stands("3x3;p00;t0", "", "");
        stands(TWO + ";t", "", "01");
        stands(TWO + ";t0", "", "1");
        stands(TWO + ";t1", "", "0");
        stands(SEVEN + ";t", "", "0123456");
        stands(SEVEN + ";t0", "", "123456");
        stands(SEVEN + ";t6", "", "012345");
        stands(SEVEN + ";t3", "", "012456");
        Due.is("a pin told behind it", Due.read(new PinAtlas(), "3x3;p00;t01=1;p01"), -30);
        PinAtlas x = Due.of(SEVEN + ";t60=12;t06=12");
        for (int t = 0; t < 2; t++) {
            Due.is("the lesser pin", x.at(t, 0), 0);
            Due.is("the greater pin", x.at(t, 1), 6);
        }
    }

    private static void numbers() {
        Doc.asks(T, "then = and a number 1 .. 12; ");
        stands(TWO + ";t01", "", "=");
        stands(TWO + ";t01=", "123456789", "");
        for (int n = 1; n <= 12; n++) {
            Due.is("a number " + n, Due.of(TWO + ";t01=" + n).at(0, 2), n);
        }
        for (int n = 13; n <= 99; n++) {
            Due.is("a number " + n, Due.read(new PinAtlas(), TWO + ";t01=" + n), -36);
        }
        Doc.asks(T, "Numbers have 1 or 2 digits (if these are not as told, the FAULT is at the first one, whatever follows; "
            + "else a third one can't stand there). ");
        for (int c = 32; c <= 126; c++) {
            String[] notAsTold = {"0 ", "00", "13", "20", "99", "0:", "0/"};
            for (String n : notAsTold) {
                Due.is("'" + n + (char) c + "'", Due.read(new PinAtlas(), TWO + ";t01=" + n + (char) c), -36);
            }
        }
        for (char c = '0'; c <= '9'; c++) {
            String[] asTold = {"10", "11", "12", "01", "09"};
            for (String n : asTold) {
                Due.is("a third digit: '" + n + c + "'", Due.read(new PinAtlas(), TWO + ";t01=" + n + c), -38);
            }
        }
        Due.is("two digits, the first a 0", Due.of(TWO + ";t01=09").at(0, 2), 9);
        Due.is("no digit behind 9: /", Due.read(new PinAtlas(), TWO + ";t01=1/"), -37);
        Due.is("no digit behind 9: :", Due.read(new PinAtlas(), TWO + ";t01=1:"), -37);
        Due.is("the end behind a number", Due.read(new PinAtlas(), TWO + ";t01=12;"), -39);
    }

    private static void atMost() {
        Doc.asks(T, "7 PINS, 6 THREADS at most: ");
        String threads = ";t01=1;t12=2;t23=3;t34=4;t45=5;t56=12";
        PinAtlas x = Due.of(SEVEN + threads);
        Due.is("7 pins", x.count(2), 7);
        Due.is("6 threads", x.count(3), 6);
        Due.is("the last one's length", x.at(5, 2), 12);
        stands(SEVEN + ";", "", "ot");
        stands(TWO + ";t01=1;t01=1;t01=1;t01=1;t01=1;t01=1;", "", "psrnmo");
        stands(SEVEN + threads + ";", "", "o");
        Doc.asks(T, "(of one thing more than there may be: its first letter)");
        int seven = -20 - SEVEN.length() - 1;
        Due.is("an eighth pin, on a free cell", Due.read(new PinAtlas(), SEVEN + ";p01"), seven);
        Due.is("an eighth pin, where one is", Due.read(new PinAtlas(), SEVEN + ";p00"), seven);
        Due.is("an eighth pin, on no cell", Due.read(new PinAtlas(), SEVEN + "; m99"), seven - 1);
        int six = -20 - SEVEN.length() - threads.length() - 1;
        Due.is("a seventh thread", Due.read(new PinAtlas(), SEVEN + threads + ";t01=1"), six);
        Due.is("a seventh thread, alike", Due.read(new PinAtlas(), SEVEN + threads + ";t00=1"), six);
        Due.is("a seventh thread, too long", Due.read(new PinAtlas(), SEVEN + threads + "; t01=99"), six - 1);
    }

    private static void inPlaceOfAll() {
        Doc.asks(T, "in place of all that was; DAY 0 (THE DRAW, the IMAGE, SHEETS stay). ");
        String text = ";s22u;p00;t01=9";
        PinAtlas x = full();
        // The TAPE of a full one begins with 3x.
        Due.is("pins", Due.read(x, "3" + text), 2);
        PinAtlas y = Due.of("3x3" + text);
        y.seed(77);
        Due.same("in place of all", State.seen(x), State.seen(y));
        Due.is("a thread of a number that was cut is not", x.at(0, 3), 0);
        x.cut(0);
        Due.is("what was is not known any more", x.undo() * 10 + x.count(8), 0);
        PinAtlas z = full();
        z.read();
        String[] got = State.whole(x).split("\n  image");
        String[] want = State.whole(z).split("\n  image");
        Due.same("image, sheets", got[1], want[1]);
        PinAtlas day = full();
        day.days(3);
        Due.read(day, "3");
        Due.is("the day", day.count(4), 0);
        Due.is("days are not known any more", day.undo(), NONE);
    }

    private static void faults() {
        Doc.asks(T, "FAULTS: -20 less the place of the first letter (behind blanks) that can't stand there ");
        Due.is("the first letter", Due.read(new PinAtlas(), "x"), -20);
        Due.is("the first one of several", Due.read(new PinAtlas(), "3?3;?"), -21);
        Due.is("behind a blank", Due.read(new PinAtlas(), " x"), -21);
        Due.is("behind blanks in the midst", Due.read(new PinAtlas(), "3  ?"), -23);
        StringBuilder b = new StringBuilder("3x3;");
        while (b.length() < 119) {
            b.append(' ');
        }
        Due.is("the last letter of 120", Due.read(new PinAtlas(), b + "?"), -139);
        Due.is("a letter that begins something, the last of 120", Due.read(new PinAtlas(), b + "p"), -140);
        Doc.asks(T, ", or of the number's first digit, if it is not as told ");
        Due.is("13", Due.read(new PinAtlas(), TWO + ";t01=13"), -36);
        Due.is("13 behind a blank", Due.read(new PinAtlas(), TWO + ";t01= 13"), -37);
        Due.is("0 and more behind it", Due.read(new PinAtlas(), TWO + ";t01=0;?"), -36);
        Doc.asks(T, "(the end: how many there are); ");
        Due.is("no letter", new PinAtlas().read(), -20);
        Due.is("one blank", Due.read(new PinAtlas(), " "), -21);
        Due.is("one letter", Due.read(new PinAtlas(), "3"), -21);
        Due.is("one letter, one blank", Due.read(new PinAtlas(), "3 "), -22);
        Due.is("120 letters", Due.read(new PinAtlas(), b + " "), -140);
    }

    private static void blanks() {
        Doc.asks(T, "blanks count for nothing, but end a number.");
        String text = "3x3;s00u;o22;p01;t10=7";
        String want = State.seen(Due.of(text));
        for (int k = 0; k <= text.length(); k++) {
            for (String blanks : new String[] {" ", "   "}) {
                PinAtlas x = Due.of(text.substring(0, k) + blanks + text.substring(k));
                Due.same("blanks at " + k, State.seen(x), want);
            }
        }
        Due.is("1, 2 is no 12", Due.read(new PinAtlas(), TWO + ";t01=1 2"), -38);
        Due.is("12, 3", Due.read(new PinAtlas(), TWO + ";t01=12 3"), -39);
        Due.is("0, 5 is no 05", Due.read(new PinAtlas(), TWO + ";t01=0 5"), -36);
        Due.is("1, ; is fair", Due.of(TWO + ";t01=1 ;o22").count(5), 1);
        Due.is("1, the end is fair", Due.of(TWO + ";t01=1  ").at(0, 2), 1);
        // The digits of a cushion, of a pin, of a thread's pins are no numbers.
        Due.is("apart", Due.of("3 x 3 ; p 0 0 ; p 0 1 ; t 0 1 = 1").count(3), 1);
    }

    private static void type() {
        Doc.asks("Promise 8", "One letter more behind THE TAPE: how many it has. ");
        PinAtlas x = new PinAtlas();
        for (int k = 1; k <= 120; k++) {
            Due.is("letter " + k, x.type(32), k);
        }
        Doc.asks("Promise 8", "FULL: 120.");
        for (int k = 0; k < 3; k++) {
            Due.is("letter 121", x.type(32), FULL);
        }
        Due.is("the fault at the end of 120", x.read(), -140);
        Due.is("it is empty then", x.type(32), 1);
        Doc.asks("Promise 8", "BAD: not 32 .. 126; ");
        PinAtlas y = new PinAtlas();
        takes("a letter", 32, 126, v -> y.type(v));
        PinAtlas z = new PinAtlas();
        for (int odd : new int[] {31, 127, 0, -1, -224, 288, 382, MIN, MAX}) {
            Due.is("letter " + odd, z.type(odd), BAD);
        }
        Due.is("none of them is there", z.type(32), 1);
    }

    /** A text of just 120 letters, whose last one tells something. */
    private static void typeTells() {
        Doc.asks("Promise 8", "FULL: 120.");
        StringBuilder b = new StringBuilder("7x7;p00u;s11d;r22l;n33r;m44u;p55d;s66l;t01=12;t12=11;t23=10;t34=12;t45=11;t56=10");
        for (int c = 0; b.length() < 120; c++) {
            b.append(";o").append(c < 6 ? 0 : 1).append(c < 6 ? c + 1 : c - 4);
        }
        PinAtlas x = new PinAtlas();
        Due.is("120 letters", Due.type(x, b.toString()), 120);
        Due.is("one more", x.type('0'), FULL);
        Due.is("pins", x.read(), 7);
        Due.is("threads", x.count(3), 6);
        Due.is("holes", x.count(5), 10);
        Due.is("the last one", x.cell(12), 100);
        PinAtlas y = new PinAtlas();
        Due.is("119 letters", Due.type(y, b.substring(0, 119)), 119);
        Due.is("the last digit is missing", y.read(), -139);
    }

    private static void read() {
        Doc.asks("Promise 9", "THE TAPE, which is empty then (by a FAULT, too), is a CUSHION: how many PINS. ");
        Due.is("no pin", Due.read(new PinAtlas(), "3x3"), 0);
        Due.is("one pin", Due.read(new PinAtlas(), "3x3;p00"), 1);
        Due.is("seven pins", Due.read(new PinAtlas(), SEVEN), 7);
        PinAtlas x = Due.of("3x3");
        Due.is("empty then", x.type('3'), 1);
        Due.is("by a fault, too", x.read(), -21);
        Due.is("its letter is not there any more", x.type('x'), 1);
        Due.is("a fault at it", x.read(), -20);
        Due.is("of nothing", x.read(), -20);
        Doc.asks("Promise 9", "A FAULT (all else stays).");
        PinAtlas y = full();
        y.read();
        String want = State.whole(y);
        // At fault is the last letter alone: all ahead of it has been told.
        String[] texts = {"7;s00;p01;t01=1;o22?", "?", "8", "3;s00;s0", "3;o00;t0", "9", "7;p00;p01;t01=13", ""};
        for (String text : texts) {
            PinAtlas z = full();
            Due.is("a fault: " + text, Due.read(z, text) <= -20 ? 1 : 0, 1);
            Due.same("all else stays: " + text, State.whole(z), want);
        }
    }

    /** What was on THE TAPE ahead of a reading is not there any more. */
    private static void readAgain() {
        Doc.asks("Promise 9", "THE TAPE, which is empty then (by a FAULT, too), is a CUSHION: how many PINS. ");
        PinAtlas x = Due.of(TWO + ";t01=12");
        Due.is("a shorter text", Due.read(x, TWO + ";t01=1"), 2);
        Due.is("its number is its own", x.at(0, 2), 1);
        Due.is("a shorter one", Due.read(x, "3x3;p0"), -26);
        Due.is("a shorter one still", Due.read(x, "3x3"), 0);
        Due.is("no pin", x.count(2), 0);
        PinAtlas y = Due.of("3x3;s00u");
        Due.read(y, "3x3;s00");
        Due.is("its course is its own", y.of(0, 2), 3);
        PinAtlas z = new PinAtlas();
        for (int k = 0; k < 120; k++) {
            z.type('9');
        }
        Due.is("120 letters at fault", z.read(), -20);
        Due.is("a fair text behind it", Due.read(z, TWO + ";t01=1"), 2);
        Due.is("its number", z.at(0, 2), 1);
    }
}
