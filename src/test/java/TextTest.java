/** Promises 8 and 9: type, read. */
public final class TextTest {
    public static void main(String[] args) {
        type();
        faults();
        fair();
        inPlaceOfAll();
        Due.end();
    }

    private static void type() {
        PinAtlas x = new PinAtlas();
        Due.is("type(31)", x.type(31), PinAtlas.BAD);
        Due.is("type(127)", x.type(127), PinAtlas.BAD);
        Due.is("type(-1)", x.type(-1), PinAtlas.BAD);
        Due.is("type(MAX)", x.type(Integer.MAX_VALUE), PinAtlas.BAD);
        Due.is("type(32)", x.type(32), 1);
        Due.is("type(126)", x.type(126), 2);
        for (int k = 3; k <= 120; k++) {
            Due.is("letter " + k, x.type('3'), k);
        }
        Due.is("one more", x.type('3'), PinAtlas.FULL);
        Due.is("BAD ahead of FULL", x.type(0), PinAtlas.BAD);
        Due.is("the fault behind a blank", x.read(), -21);
        Due.is("empty then", x.type('3'), 1);
        StringBuilder long120 = new StringBuilder("3x3;p00");
        while (long120.length() < 120) {
            long120.append(' ');
        }
        PinAtlas y = new PinAtlas();
        Due.is("120 letters", Due.type(y, long120.toString()), 120);
        Due.is("what is refused is not on the tape", y.type('?'), PinAtlas.FULL);
        Due.is("read of 120 letters", y.read(), 1);
    }

    private static void fault(String text, int place) {
        PinAtlas x = Due.of("4x6;s00;o33");
        x.days(2);
        x.seed(9);
        Due.is("read of '" + text + "'", Due.read(x, text), -20 - place);
        Due.is("'" + text + "': the tape is empty", x.type('4'), 1);
        int[] want = {4, 6, 1, 0, 2, 1, 0, 0, 2};
        for (int what = 0; what < want.length; what++) {
            Due.is("'" + text + "' left count(" + what + ")", x.count(what), want[what]);
        }
        Due.is("'" + text + "' left the draw", x.seed(1), 9);
    }

    private static void faults() {
        fault("", 0);
        fault("   ", 3);
        fault("2x3", 0);
        fault("8x3", 0);
        fault("x3", 0);
        fault("  9x3", 2);
        fault("3", 1);
        fault("3  ", 3);
        fault("3X3", 1);
        fault("33", 1);
        fault("3x", 2);
        fault("3x ", 3);
        fault("3x2", 2);
        fault("3x8", 2);
        fault("3x44", 3);
        fault("3x3p", 3);
        fault("3x3;", 4);
        fault("3x3; ", 5);
        fault("3x3;;", 4);
        fault("3x3;x00", 4);
        fault("3x3;P00", 4);
        fault("3x3;u", 4);
        fault("3x3;p", 5);
        fault("3x3;p3", 5);
        fault("3x4;p30", 5);
        fault("3x4;p03;p04", 10);
        fault("3x3;pu", 5);
        fault("3x3;p0", 6);
        fault("3x3;p03", 6);
        fault("3x3;p0 3", 7);
        fault("3x3;p0u", 6);
        fault("3x3;p00x", 7);
        fault("3x3;p00ud", 8);
        fault("3x3;p00u d", 9);
        fault("3x3;p000", 7);
        fault("3x3;p00;s00", 10);
        fault("3x3;p00;o00", 10);
        fault("3x3;o00;o00", 10);
        fault("3x3;o00;m00", 10);
        fault("3x3;o3", 5);
        fault("3x3;o03", 6);
        fault("3x3;o", 5);
        fault("3x3;o0", 6);
        fault("3x3;o00u", 7);
        fault("3x3;t01=1", 5);
        fault("3x3;p00;t01=1", 10);
        fault("3x3;p00;t1", 9);
        fault("3x3;p00;t00=1", 10);
        fault("3x3;p00;p01;t00=1", 14);
        fault("3x3;p00;p01;t11=1", 14);
        fault("3x3;p00;p01;t02=1", 14);
        fault("3x3;p00;p01;t20=1", 13);
        fault("3x3;p00;t01=1;p01", 10);
        fault("3x3;p00;p01;t", 13);
        fault("3x3;p00;p01;t0", 14);
        fault("3x3;p00;p01;t01", 15);
        fault("3x3;p00;p01;t011", 15);
        fault("3x3;p00;p01;t01=", 16);
        fault("3x3;p00;p01;t01= ", 17);
        fault("3x3;p00;p01;t01=;", 16);
        fault("3x3;p00;p01;t01=-1", 16);
        fault("3x3;p00;p01;t01=0", 16);
        fault("3x3;p00;p01;t01= 0", 17);
        fault("3x3;p00;p01;t01=00", 16);
        fault("3x3;p00;p01;t01=001", 16);
        fault("3x3;p00;p01;t01=0 1", 16);
        fault("3x3;p00;p01;t01=0;?", 16);
        fault("3x3;p00;p01;t01=13", 16);
        fault("3x3;p00;p01;t01=130", 16);
        fault("3x3;p00;p01;t01=99x", 16);
        fault("3x3;p00;p01;t01=123", 18);
        fault("3x3;p00;p01;t01=012", 18);
        fault("3x3;p00;p01;t01=1 2", 18);
        fault("3x3;p00;p01;t01=12 3", 19);
        fault("3x3;p00;p01;t01=1u", 17);
        String seven = "3x3;p00;p01;p02;p10;p11;p12;p20";
        fault(seven + ";p21", 32);
        fault(seven + "; s99", 33);
        fault(seven + ";r", 32);
        fault(seven + ";o20", 34);
        String six = "3x3;p00;p01;t01=1;t01=2;t01=3;t01=4;t01=5;t01=6";
        fault(six + ";t01=7", 48);
        fault(six + ";t99", 48);
        fault(six + ";p01", 50);
    }

    private static void fair() {
        PinAtlas x = Due.of("  7 x 3 ; p 0 0 u ;s01d; r02l ;n60r;m61;o62;o50 ; t 0 1 = 1 ;t21=12;t43=05;t 3 4=09  ");
        int[] want = {7, 3, 5, 4, 0, 2, 0, 15, 0};
        for (int what = 0; what < want.length; what++) {
            Due.is("fair text: count(" + what + ")", x.count(what), want[what]);
        }
        int[] kinds = {0, 1, 2, 3, 4};
        int[] cells = {0, 1, 2, 18, 19};
        int[] courses = {0, 1, 2, 3, 3};
        for (int p = 0; p < 5; p++) {
            Due.is("kind of " + p, x.of(p, 0), kinds[p]);
            Due.is("cell of " + p, x.of(p, 1), cells[p]);
            Due.is("course of " + p, x.of(p, 2), courses[p]);
        }
        int[][] threads = {{0, 1, 1, 0, 1}, {1, 2, 12, 0, 1}, {3, 4, 5, 0, 1}, {3, 4, 9, 0, 1}};
        for (int t = 0; t < 4; t++) {
            for (int what = 0; what < 5; what++) {
                Due.is("at(" + t + ", " + what + ")", x.at(t, what), threads[t][what]);
            }
        }
        Due.is("cell(20)", x.cell(20), 100);
        Due.is("cell(15)", x.cell(15), 100);
        Due.is("sides alone", Due.read(new PinAtlas(), "3x7"), 0);
        Due.is("a wide one's last column", Due.read(new PinAtlas(), "3x7;p26"), 1);
        Due.is("a high one's last row", Due.read(new PinAtlas(), "7x3;p62"), 1);
        Due.is("seven", Due.read(new PinAtlas(), "3x3;p00;p01;p02;p10;p11;p12;p20"), 7);
        Due.is("a hole to each cell", Due.of("3x3;o00;o01;o02;o10;o11;o12;o20;o21;o22").count(5), 9);
        Due.is("six threads", Due.of("3x3;p00;p01;t01=1;t01=2;t01=3;t01=4;t01=5;t01=6").count(3), 6);
    }

    private static void inPlaceOfAll() {
        PinAtlas x = Due.of("4x4;s00;p01;t01=3;o33");
        x.days(3);
        x.seed(41);
        x.image();
        x.sheet(1, 0, 7);
        Due.is("read of '3x5'", Due.read(x, "3x5"), 0);
        int[] want = {3, 5, 0, 0, 0, 0, 0, 0, 0};
        for (int what = 0; what < want.length; what++) {
            Due.is("in place of all: count(" + what + ")", x.count(what), want[what]);
        }
        Due.is("nothing to be undone", x.undo(), PinAtlas.NONE);
        Due.is("the tape is empty", x.read(), -20);
        Due.is("the draw stays", x.seed(1), 41);
        Due.is("the sheet stays", x.drop(1), 7);
        Due.is("the image stays", x.restore(), 1);
        Due.is("as it was", x.count(4), 3);
        Due.is("what may be undone, too", x.count(8), 3);
    }
}
