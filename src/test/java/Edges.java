/** What the boundary tests share: calls that are refused, and leave an object as it was. */
abstract class Edges {
    static final int BAD = PinAtlas.BAD, NOT = PinAtlas.NOT, FULL = PinAtlas.FULL, NONE = PinAtlas.NONE;
    static final int NULL = PinAtlas.NULL, CAST = PinAtlas.CAST, INDEX = PinAtlas.INDEX, SIZE = PinAtlas.SIZE;
    static final int MIN = Integer.MIN_VALUE, MAX = Integer.MAX_VALUE;


    interface Call {
        int on(PinAtlas x);
    }

    interface Made {
        PinAtlas x();
    }

    /** The call is refused so, and an object on which it was made is as one on which it was not. */
    static void refuses(String call, int want, Made made, Call refused) {
        PinAtlas x = made.x();
        Due.is(call, refused.on(x), want);
        Due.same("behind " + call, State.whole(x), State.whole(made.x()));
    }

    /** A number is taken from the least to the greatest, and BAD on both sides of them. */
    static void takes(String name, int least, int greatest, java.util.function.IntUnaryOperator call) {
        for (int v = least; v <= greatest; v++) {
            Due.is(name + " " + v + " is BAD", call.applyAsInt(v) == BAD ? 1 : 0, 0);
        }
        for (int v : new int[] {least - 1, greatest + 1, least - 2, greatest + 2, MIN, MAX, MIN + 1, MAX - 1}) {
            if (v < least || v > greatest) {
                Due.is(name + " " + v, call.applyAsInt(v), BAD);
            }
        }
    }

    /** 3 x 4 cells, of each thing something: pin 1 is out, 4 steps may be undone, sheet 2 holds nothing. */
    static PinAtlas full() {
        PinAtlas x = new PinAtlas();
        x.cushion(3, 4);
        x.pin(1, 4);
        x.pin(0, 3);
        x.pin(4, 11);
        x.thread(0, 1, 4);
        x.thread(2, 1, 12);
        x.out(1);
        x.days(1);
        x.image();
        x.cut(1);
        x.course(0, 1);
        x.seed(77);
        x.type('3');
        x.type('x');
        holds(x, 0, 0, 1, 2, 3);
        holds(x, 1, 3, 4, 5);
        x.sheet(3, 1, 0);
        return x;
    }

    static PinAtlas sevenPins() {
        PinAtlas x = new PinAtlas();
        x.pin(0, 24);
        x.out(0);
        for (int k = 1; k < 7; k++) {
            x.pin(k % 5, k);
        }
        return x;
    }

    static PinAtlas sixThreads() {
        PinAtlas x = new PinAtlas();
        x.pin(0, 24);
        x.pin(1, 23);
        for (int k = 1; k <= 6; k++) {
            x.thread(0, 1, k);
        }
        return x;
    }

    static PinAtlas lastDay() {
        PinAtlas x = new PinAtlas();
        x.pin(1, 12);
        for (int k = 0; k < 249; k++) {
            x.days(40);
        }
        x.days(39);
        return x;
    }

    /** A sheet of a lane that holds just these items. */
    static void holds(PinAtlas x, int sheet, int lane, long... items) {
        x.sheet(sheet, lane, items.length);
        for (int i = 0; i < items.length; i++) {
            x.item(sheet, lane, i, items[i]);
        }
    }
}
