/** Promises 31 and 32: image, restore. */
public final class ImageTest {
    public static void main(String[] args) {
        none();
        allIsKept();
        oneImage();
        Due.end();
    }

    private static void none() {
        PinAtlas x = Due.of("3x4;s10");
        x.days(2);
        Due.is("none", x.restore(), PinAtlas.NONE);
        Due.is("nothing is changed", x.count(4), 2);
    }

    private static PinAtlas made() {
        PinAtlas x = Due.of("4x5;s10u;p00;m33;o13;t01=3;t02=9");
        x.seed(321);
        x.drift(2);
        x.cut(1);
        x.out(1);
        return x;
    }

    private static void isAsMade(String when, PinAtlas x) {
        PinAtlas y = made();
        for (int what = 0; what < 9; what++) {
            Due.is(when + ": count(" + what + ")", x.count(what), y.count(what));
        }
        for (int c = 0; c < 20; c++) {
            Due.is(when + ": cell(" + c + ")", x.cell(c), y.cell(c));
        }
        for (int p = 0; p < 3; p++) {
            for (int what = 0; what < 4; what++) {
                Due.is(when + ": of(" + p + ", " + what + ")", x.of(p, what), y.of(p, what));
            }
        }
        for (int t = 0; t < 2; t++) {
            for (int what = 0; what < 5; what++) {
                Due.is(when + ": at(" + t + ", " + what + ")", x.at(t, what), y.at(t, what));
            }
        }
        int draw = x.seed(1);
        x.seed(draw);
        Due.is(when + ": the draw", draw, y.seed(1));
    }

    private static void allIsKept() {
        PinAtlas x = made();
        Due.is("image()", x.image(), 1);
        isAsMade("after image()", x);
        x.sheet(0, 2, 3);
        x.days(20);
        x.seed(5);
        x.undo();
        x.put(1, 2);
        x.course(0, 2);
        Due.type(x, "3x");
        x.sheet(1, 1, 9);
        Due.is("restore()", x.restore(), 1);
        isAsMade("restored", x);
        Due.is("the sheets are not of it", x.drop(1), 9);
        Due.is("nor the tape", x.type('3'), 3);
        PinAtlas y = made();
        for (int k = 3; k >= 0; k--) {
            Due.is("undo()", x.undo(), k);
            y.undo();
            Due.is("undone, its day", x.count(4), y.count(4));
            Due.is("undone, its holes", x.count(5), y.count(5));
            Due.is("undone, its ship", x.of(0, 1), y.of(0, 1));
            Due.is("undone, its threads", x.count(7), y.count(7));
        }
        Due.is("no more", x.undo(), PinAtlas.NONE);
        x.cushion(3, 3);
        x.days(30);
        Due.is("restored once more", x.restore(), 1);
        isAsMade("restored once more", x);
        x.read();
        Due.is("behind a text, too", Due.read(x, "3x3;p00"), 1);
        x.restore();
        isAsMade("restored behind a text", x);
    }

    private static void oneImage() {
        PinAtlas x = made();
        x.image();
        x.days(10);
        x.image();
        int day = x.count(4);
        x.days(3);
        x.restore();
        Due.is("the later image alone", x.count(4), day);
        for (int k = 7; k >= 0; k--) {
            Due.is("undo() of a full past", x.undo(), k);
        }
        Due.is("its oldest day", x.count(4), day - 8);
        x.restore();
        x.days(4);
        for (int k = 0; k < 8; k++) {
            x.undo();
        }
        Due.is("a full past goes on", x.count(4), day - 4);
    }
}
