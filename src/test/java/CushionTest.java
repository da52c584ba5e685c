/** Promises 1 to 7 and 10: a new object, cushion, pin, thread, of, at, cell, count. */
public final class CushionTest {
    public static void main(String[] args) {
        newObject();
        cushion();
        pin();
        thread();
        of();
        at();
        cell();
        count();
        Due.end();
    }

    private static void newObject() {
        PinAtlas x = new PinAtlas();
        int[] want = {5, 5, 0, 0, 0, 0, 0, 0, 0};
        for (int what = 0; what < want.length; what++) {
            Due.is("new: count(" + what + ")", x.count(what), want[what]);
        }
        for (int c = 0; c < 25; c++) {
            Due.is("new: cell(" + c + ")", x.cell(c), PinAtlas.NONE);
        }
        Due.is("new: read()", x.read(), -20);
        Due.is("new: drop(0)", x.drop(0), PinAtlas.NULL);
        Due.is("new: seed(1)", x.seed(1), 1);
    }

    private static void cushion() {
        PinAtlas x = new PinAtlas();
        for (int r = 3; r <= 7; r++) {
            for (int c = 3; c <= 7; c++) {
                Due.is("cushion(" + r + ", " + c + ")", x.cushion(r, c), r * c);
                Due.is("rows", x.count(0), r);
                Due.is("columns", x.count(1), c);
                Due.is("last cell", x.cell(r * c - 1), PinAtlas.NONE);
                Due.is("behind the last cell", x.cell(r * c), PinAtlas.BAD);
            }
        }
        x.cushion(4, 6);
        x.pin(1, 23);
        x.pin(4, 0);
        x.thread(0, 1, 12);
        x.out(1);
        x.days(3);
        x.seed(77);
        int[][] bad = {{2, 5}, {8, 5}, {5, 2}, {5, 8}, {-1, -1}, {Integer.MAX_VALUE, 3}, {3, Integer.MIN_VALUE}};
        for (int[] b : bad) {
            Due.is("cushion(" + b[0] + ", " + b[1] + ")", x.cushion(b[0], b[1]), PinAtlas.BAD);
        }
        Due.is("refused: pins stay", x.count(2), 2);
        Due.is("refused: undoable stays", x.count(8), 4);
        x.image();
        Due.type(x, "3x");
        x.sheet(2, 1, 5);
        Due.is("cushion(3, 7)", x.cushion(3, 7), 21);
        int[] want = {3, 7, 0, 0, 0, 0, 0, 0, 0};
        for (int what = 0; what < want.length; what++) {
            Due.is("emptied: count(" + what + ")", x.count(what), want[what]);
        }
        Due.is("emptied: undo()", x.undo(), PinAtlas.NONE);
        Due.is("the draw stays", x.seed(77), 77);
        Due.is("the tape stays", x.type(51), 3);
        Due.is("the sheet stays", x.drop(2), 5);
        Due.is("the image stays", x.restore(), 1);
        Due.is("restored rows", x.count(0), 4);
    }

    private static void pin() {
        PinAtlas x = new PinAtlas();
        for (int k = 0; k < 5; k++) {
            Due.is("pin(" + k + ", ..)", x.pin(k, 24 - k), k);
            Due.is("its kind", x.of(k, 0), k);
            Due.is("its cell", x.of(k, 1), 24 - k);
            Due.is("its course", x.of(k, 2), 3);
        }
        Due.is("pin(-1, 0)", x.pin(-1, 0), PinAtlas.BAD);
        Due.is("pin(5, 0)", x.pin(5, 0), PinAtlas.BAD);
        Due.is("pin(0, -1)", x.pin(0, -1), PinAtlas.BAD);
        Due.is("pin(0, 25)", x.pin(0, 25), PinAtlas.BAD);
        Due.is("BAD ahead of NOT: pin(5, 24)", x.pin(5, 24), PinAtlas.BAD);
        Due.is("a pin is there", x.pin(0, 24), PinAtlas.NOT);
        Due.is("out(4)", x.out(4), 20);
        Due.is("a hole is there", x.pin(0, 20), PinAtlas.NOT);
        Due.is("what is refused leaves what may be undone", x.count(8), 1);
        Due.is("pin(1, 0)", x.pin(1, 0), 5);
        Due.is("a new pin leaves nothing to be undone", x.count(8), 0);
        Due.is("pin(1, 1)", x.pin(1, 1), 6);
        Due.is("an eighth", x.pin(1, 2), PinAtlas.FULL);
        Due.is("BAD ahead of FULL", x.pin(1, 25), PinAtlas.BAD);
        Due.is("NOT ahead of FULL", x.pin(1, 1), PinAtlas.NOT);
        Due.is("NOT ahead of FULL, a hole", x.pin(1, 20), PinAtlas.NOT);
        Due.is("seven pins", x.count(2), 7);
    }

    private static void thread() {
        PinAtlas x = Due.of("3x3;p00;p01;p22");
        Due.is("thread(1, 0, 1)", x.thread(1, 0, 1), 0);
        Due.is("thread(0, 2, 12)", x.thread(0, 2, 12), 1);
        int[][] bad = {{0, 0, 1}, {-1, 0, 1}, {0, -1, 1}, {3, 0, 1}, {0, 3, 1}, {0, 1, 0}, {0, 1, 13}, {0, 1, -5}};
        for (int[] b : bad) {
            Due.is("thread(" + b[0] + ", " + b[1] + ", " + b[2] + ")", x.thread(b[0], b[1], b[2]), PinAtlas.BAD);
        }
        Due.is("threads", x.count(3), 2);
        x.out(2);
        Due.is("a thread to a pin that is out", x.thread(2, 1, 3), 2);
        Due.is("a new thread leaves nothing to be undone", x.undo(), PinAtlas.NONE);
        Due.is("it does not hold", x.at(2, 4), 0);
        Due.is("the same two again", x.thread(2, 1, 3), 3);
        x.thread(0, 1, 5);
        Due.is("thread 5", x.thread(0, 1, 5), 5);
        x.course(0, 0);
        Due.is("a seventh", x.thread(0, 1, 5), PinAtlas.FULL);
        Due.is("BAD ahead of FULL", x.thread(1, 1, 5), PinAtlas.BAD);
        Due.is("what is refused leaves what may be undone", x.count(8), 1);
    }

    private static void of() {
        PinAtlas x = Due.of("5x5;s22u;p12;r24d;m44l;n40;t01=1;t02=2");
        Due.is("of(0, 0)", x.of(0, 0), 1);
        Due.is("of(1, 0)", x.of(1, 0), 0);
        Due.is("of(2, 0)", x.of(2, 0), 2);
        Due.is("of(3, 0)", x.of(3, 0), 4);
        Due.is("of(4, 0)", x.of(4, 0), 3);
        Due.is("of(0, 1)", x.of(0, 1), 12);
        Due.is("of(3, 1)", x.of(3, 1), 24);
        Due.is("of(0, 2)", x.of(0, 2), 0);
        Due.is("of(1, 2)", x.of(1, 2), 3);
        Due.is("of(2, 2)", x.of(2, 2), 1);
        Due.is("of(3, 2)", x.of(3, 2), 2);
        Due.is("bound by a thread as short as may be, of(0, 3)", x.of(0, 3), 0);
        x.cut(0);
        Due.is("cut, of(0, 3)", x.of(0, 3), 8);
        x.cut(1);
        Due.is("free but for the pin above, of(0, 3)", x.of(0, 3), 14);
        Due.is("in a corner, of(3, 3)", x.of(3, 3), 5);
        Due.is("in the other corner, of(4, 3)", x.of(4, 3), 9);
        x.out(3);
        Due.is("a hole may be gone to, of(2, 3)", x.of(2, 3), 7);
        Due.is("out: its cell", x.of(3, 1), PinAtlas.NONE);
        Due.is("out: its course", x.of(3, 2), 2);
        Due.is("out: where it may go", x.of(3, 3), 0);
        Due.is("out: its kind", x.of(3, 0), 4);
        Due.is("of(-1, 0)", x.of(-1, 0), PinAtlas.BAD);
        Due.is("of(5, 0)", x.of(5, 0), PinAtlas.BAD);
        Due.is("of(0, -1)", x.of(0, -1), PinAtlas.BAD);
        Due.is("of(0, 4)", x.of(0, 4), PinAtlas.BAD);
        Due.is("of(MIN, MAX)", x.of(Integer.MIN_VALUE, Integer.MAX_VALUE), PinAtlas.BAD);
        PinAtlas slack = Due.of("5x5;s22;p04;t01=3");
        Due.is("a thread that does not hold binds nobody", slack.of(0, 3), 15);
    }

    private static void at() {
        PinAtlas x = Due.of("5x5;s00;p11;p44;t10=2;t12=5;t21=6");
        Due.is("at(0, 0)", x.at(0, 0), 0);
        Due.is("at(0, 1)", x.at(0, 1), 1);
        Due.is("at(0, 2)", x.at(0, 2), 2);
        Due.is("at(0, 3)", x.at(0, 3), 0);
        Due.is("just as far as it is long, at(0, 4)", x.at(0, 4), 1);
        Due.is("too far, at(1, 4)", x.at(1, 4), 0);
        Due.is("at(2, 0)", x.at(2, 0), 1);
        Due.is("at(2, 1)", x.at(2, 1), 2);
        Due.is("at(2, 4)", x.at(2, 4), 1);
        x.cut(2);
        Due.is("cut, at(2, 3)", x.at(2, 3), 1);
        Due.is("cut, at(2, 4)", x.at(2, 4), 0);
        Due.is("cut, at(2, 2)", x.at(2, 2), 6);
        x.out(1);
        Due.is("out, at(0, 4)", x.at(0, 4), 0);
        Due.is("out, at(0, 3)", x.at(0, 3), 0);
        Due.is("at(-1, 0)", x.at(-1, 0), PinAtlas.BAD);
        Due.is("at(3, 0)", x.at(3, 0), PinAtlas.BAD);
        Due.is("at(0, 5)", x.at(0, 5), PinAtlas.BAD);
        Due.is("at(0, -1)", x.at(0, -1), PinAtlas.BAD);
    }

    private static void cell() {
        PinAtlas x = Due.of("3x4;p00;s23;o12");
        Due.is("cell(0)", x.cell(0), 0);
        Due.is("cell(11)", x.cell(11), 1);
        Due.is("cell(6)", x.cell(6), 100);
        Due.is("cell(5)", x.cell(5), PinAtlas.NONE);
        Due.is("cell(-1)", x.cell(-1), PinAtlas.BAD);
        Due.is("cell(-4)", x.cell(-4), PinAtlas.BAD);
        Due.is("cell(12)", x.cell(12), PinAtlas.BAD);
        Due.is("cell(MAX)", x.cell(Integer.MAX_VALUE), PinAtlas.BAD);
        Due.is("cell(MIN)", x.cell(Integer.MIN_VALUE), PinAtlas.BAD);
    }

    private static void count() {
        PinAtlas x = Due.of("3x7;p00;p01;p02;s20;o22;o24;t01=1;t12=1;t02=1;t13=3");
        int[] want = {3, 7, 4, 4, 0, 2, 0, 11, 0};
        for (int what = 0; what < want.length; what++) {
            Due.is("count(" + what + ")", x.count(what), want[what]);
        }
        x.days(2);
        Due.is("closed by going there, count(5)", x.count(5), 1);
        x.cut(0);
        x.out(2);
        x.out(0);
        int[] then = {3, 7, 4, 4, 2, 3, 5, 8, 5};
        for (int what = 0; what < then.length; what++) {
            Due.is("then count(" + what + ")", x.count(what), then[what]);
        }
        Due.is("count(-1)", x.count(-1), PinAtlas.BAD);
        Due.is("count(9)", x.count(9), PinAtlas.BAD);
    }
}
