/** Promises 33 to 38: felt, film, sheet, drop, item, copy. */
public final class SheetsTest {
    private static final int NULL = PinAtlas.NULL, CAST = PinAtlas.CAST, INDEX = PinAtlas.INDEX, BAD = PinAtlas.BAD;
    private static final int MIN = Integer.MIN_VALUE, MAX = Integer.MAX_VALUE;

    public static void main(String[] args) {
        felt();
        feltRefused();
        film();
        filmRefused();
        sheet();
        drop();
        item();
        itemBits();
        copy();
        copyRefused();
        Due.end();
    }

    /** A sheet of a lane that holds just these items. */
    private static void holds(PinAtlas x, int sheet, int lane, long... items) {
        x.sheet(sheet, lane, items.length);
        for (int i = 0; i < items.length; i++) {
            x.item(sheet, lane, i, items[i]);
        }
    }

    private static void felt() {
        PinAtlas x = Due.of("5x5;s22;o32");
        holds(x, 0, 0, 13, 14, 14, 13, 12);
        Due.is("as a ship", x.felt(0, 0, 0, 0, 5, 0), 2);
        Due.is("going right", x.felt(0, 0, 0, 0, 5, 1), 8);
        holds(x, 1, 1, 17, 17, 17);
        Due.is("as rusty or a mission", x.felt(0, 1, 1, 0, 3, 0), 20);
        Due.is("a ship would do so by no course", x.felt(0, 1, 1, 0, 3, 1), 0);
        Due.is("for a day, down as well", x.felt(0, 1, 1, 0, 1, 1), 2);
        holds(x, 2, 2, 99, 12, 12, 12, 99);
        Due.is("as a port", x.felt(0, 2, 2, 1, 3, 0), 1);
        holds(x, 2, 3, 7, 2, 2);
        Due.is("as a needle", x.felt(0, 2, 3, 0, 3, 0), 8);
        Due.is("up", x.felt(0, 2, 3, 0, 3, 1), 1);
        holds(x, 2, 3, 17);
        Due.is("one item", x.felt(0, 2, 3, 0, 1, 0), 20);
        holds(x, 2, 3, 17, 18);
        Due.is("none", x.felt(0, 2, 3, 0, 2, 0), 0);
        Due.is("nothing is changed: kind", x.of(0, 0), 1);
        Due.is("nothing is changed: course", x.of(0, 2), 3);
        Due.is("nothing is changed: day", x.count(4), 0);
        Due.is("nothing is changed: undoable", x.count(8), 0);
        x.days(1);
        holds(x, 0, 3, 13, 13);
        Due.is("shut in by nothing: a port", x.felt(0, 0, 3, 0, 2, 0), 1);
        holds(x, 0, 3, 18, 17, 17);
        Due.is("each day: a mission, down and left", x.felt(0, 0, 3, 0, 3, 0), 16);
        holds(x, 0, 3, 13, 18, 18, 17);
        Due.is("on even days: rusty", x.felt(0, 0, 3, 0, 4, 0), 4);
        PinAtlas port = Due.of("3x3;p11");
        holds(port, 0, 0, 4, 4, 4, 4, 4, 4, 4, 4);
        Due.is("a port by any course", port.felt(0, 0, 0, 0, 8, 1), 15);
        Due.is("a port as a port, rusty, a mission", port.felt(0, 0, 0, 0, 8, 0), 21);
        holds(port, 0, 3, 4L + (1L << 32));
        Due.is("a long that is no cell", port.felt(0, 0, 3, 0, 1, 1), 0);
    }

    private static void feltRefused() {
        PinAtlas x = Due.of("3x3;p11;p00");
        x.out(1);
        x.sheet(0, 1, 5);
        int[][] bad = {{-1, 0, 1, 0, 1, 0}, {2, 0, 1, 0, 1, 0}, {0, -1, 1, 0, 1, 0}, {0, 4, 1, 0, 1, 0},
            {0, 0, -1, 0, 1, 0}, {0, 0, 4, 0, 1, 0}, {0, 0, 1, 0, 0, 0}, {0, 0, 1, 0, 9, 0}, {0, 0, 1, 0, -1, 0},
            {0, 0, 1, 0, 1, 2}, {0, 0, 1, 0, 1, -1}, {0, 3, 1, 0, 9, 0}, {0, 0, 0, 0, 1, 5}, {0, 0, 1, 9, 1, 5},
            {1, 0, 1, 0, 9, 0}, {0, MIN, MAX, MIN, MAX, MIN}};
        for (int[] b : bad) {
            Due.is("felt" + java.util.Arrays.toString(b), x.felt(b[0], b[1], b[2], b[3], b[4], b[5]), BAD);
        }
        Due.is("nothing there", x.felt(0, 1, 1, 0, 1, 0), NULL);
        Due.is("NULL ahead of all else", x.felt(1, 1, 2, -1, 1, 0), NULL);
        Due.is("another lane", x.felt(0, 0, 2, 0, 1, 0), CAST);
        Due.is("CAST ahead of INDEX, NOT", x.felt(1, 0, 2, 9, 1, 0), CAST);
        Due.is("i below 0", x.felt(0, 0, 1, -1, 1, 0), INDEX);
        Due.is("i too high", x.felt(0, 0, 1, 5, 1, 0), INDEX);
        Due.is("too many", x.felt(0, 0, 1, 3, 3, 0), INDEX);
        Due.is("i MAX", x.felt(0, 0, 1, MAX, 8, 0), INDEX);
        Due.is("i MIN", x.felt(0, 0, 1, MIN, 8, 0), INDEX);
        Due.is("INDEX ahead of NOT", x.felt(1, 0, 1, 5, 1, 0), INDEX);
        Due.is("out", x.felt(1, 0, 1, 0, 1, 0), PinAtlas.NOT);
        Due.is("just so many", x.felt(0, 0, 1, 3, 2, 0), 0);
    }

    private static void film() {
        PinAtlas x = Due.of("3x4;s10;p22;m00;o03");
        x.sheet(0, 0, 24);
        Due.is("film(0, 24, ..)", x.film(0, 24, 0, 0, 0), 24);
        int[] cells = {5, 6, 7, 7, 6, 5, 4, 4, 5, 6, 7, 7, 6, 5, 4, 4, 5, 6, 7, 7, 6, 5, 4, 4};
        for (int i = 0; i < 24; i++) {
            itemIs("item " + i, x, 0, 0, i, cells[i]);
        }
        x.sheet(1, 3, 4);
        x.item(1, 3, 0, 9);
        x.item(1, 3, 3, 8);
        Due.is("film(2, 2, ..) from item 1 on", x.film(2, 2, 1, 3, 1), 2);
        int[] want = {9, 1, 2, 8};
        for (int i = 0; i < 4; i++) {
            itemIs("longs, item " + i, x, 1, 3, i, want[i]);
        }
        Due.is("nothing is changed", x.count(4), 0);
        x.out(0);
        x.sheet(2, 1, 2);
        Due.is("film of one that is out", x.film(0, 2, 2, 1, 0), 2);
        x.put(0, 4);
        for (int i = 0; i < 2; i++) {
            Due.is("no cell: not 0 any more", isCell(x, 2, 1, i, 0) ? 1 : 0, 0);
            Due.is("no cell: not the one where it was", isCell(x, 2, 1, i, 4) ? 1 : 0, 0);
        }
    }

    /** Items can only be felt: by a port that stands on the cell that is due. The cushion is as it was then. */
    private static boolean isCell(PinAtlas x, int sheet, int lane, int i, int cell) {
        x.image();
        x.cushion(7, 7);
        x.pin(0, cell);
        int courses = x.felt(0, sheet, lane, i, 1, 1);
        x.restore();
        return courses == 15;
    }

    private static void itemIs(String what, PinAtlas x, int sheet, int lane, int i, int want) {
        Due.is(what + ": whether it is " + want, isCell(x, sheet, lane, i, want) ? 1 : 0, 1);
    }

    private static void filmRefused() {
        PinAtlas x = Due.of("3x3;s10");
        x.sheet(0, 1, 5);
        int[][] bad = {{-1, 1, 0, 1, 0}, {1, 1, 0, 1, 0}, {0, 0, 0, 1, 0}, {0, 25, 0, 1, 0}, {0, -1, 0, 1, 0},
            {0, 1, 4, 1, 0}, {0, 1, -1, 1, 0}, {0, 1, 0, 4, 0}, {0, 1, 0, -1, 0}, {0, 25, 1, 2, 9}};
        for (int[] b : bad) {
            Due.is("film" + java.util.Arrays.toString(b), x.film(b[0], b[1], b[2], b[3], b[4]), BAD);
        }
        Due.is("nothing there", x.film(0, 1, 1, 1, 0), NULL);
        Due.is("NULL ahead of INDEX", x.film(0, 24, 1, 1, -1), NULL);
        Due.is("another lane", x.film(0, 1, 0, 0, 0), CAST);
        Due.is("CAST ahead of INDEX", x.film(0, 24, 0, 0, 0), CAST);
        Due.is("too many", x.film(0, 6, 0, 1, 0), INDEX);
        Due.is("too far on", x.film(0, 2, 0, 1, 4), INDEX);
        Due.is("i below 0", x.film(0, 1, 0, 1, -1), INDEX);
        Due.is("i MAX", x.film(0, 24, 0, 1, MAX), INDEX);
        for (int i = 0; i < 5; i++) {
            itemIs("what is refused changes nothing, item " + i, x, 0, 1, i, 0);
        }
        Due.is("the last item", x.film(0, 1, 0, 1, 4), 1);
        itemIs("it", x, 0, 1, 4, 4);
    }

    private static void sheet() {
        PinAtlas x = Due.of("3x3;p00");
        for (int s = 0; s < 4; s++) {
            Due.is("sheet(" + s + ", " + s + ", 24)", x.sheet(s, s, 24), 24);
        }
        for (int s = 0; s < 4; s++) {
            Due.is("its lane", x.felt(0, s, s, 23, 1, 1), 15);
            Due.is("no other", x.felt(0, s, (s + 1) % 4, 23, 1, 1), CAST);
            Due.is("no more items", x.felt(0, s, s, 24, 1, 1), INDEX);
        }
        x.item(0, 0, 0, 5);
        Due.is("sheet(0, 0, 2)", x.sheet(0, 0, 2), 2);
        itemIs("a new row", x, 0, 0, 0, 0);
        Due.is("shorter", x.item(0, 0, 2, 1), INDEX);
        Due.is("sheet(0, 3, 0)", x.sheet(0, 3, 0), 0);
        Due.is("a row of no item", x.item(0, 3, 0, 1), INDEX);
        Due.is("sheet(0, 0, -1)", x.sheet(0, 0, -1), PinAtlas.SIZE);
        Due.is("sheet(0, 0, MIN)", x.sheet(0, 0, MIN), PinAtlas.SIZE);
        Due.is("sheet(0, 0, 25)", x.sheet(0, 0, 25), BAD);
        Due.is("sheet(0, 0, MAX)", x.sheet(0, 0, MAX), BAD);
        Due.is("sheet(4, 0, 1)", x.sheet(4, 0, 1), BAD);
        Due.is("sheet(-1, 0, 1)", x.sheet(-1, 0, 1), BAD);
        Due.is("sheet(0, 4, 1)", x.sheet(0, 4, 1), BAD);
        Due.is("sheet(0, -1, 1)", x.sheet(0, -1, 1), BAD);
        Due.is("BAD ahead of SIZE", x.sheet(0, 4, -1), BAD);
        Due.is("what is refused changes nothing", x.drop(0), 0);
        Due.is("missing, it stays so", x.sheet(0, 0, -1), PinAtlas.SIZE);
        Due.is("missing", x.drop(0), NULL);
    }

    private static void drop() {
        PinAtlas x = new PinAtlas();
        Due.is("drop(3)", x.drop(3), NULL);
        x.sheet(3, 2, 17);
        Due.is("drop(3), 17 items", x.drop(3), 17);
        Due.is("drop(3) again", x.drop(3), NULL);
        Due.is("nothing there", x.item(3, 2, 0, 1), NULL);
        Due.is("drop(4)", x.drop(4), BAD);
        Due.is("drop(-1)", x.drop(-1), BAD);
        Due.is("drop(MIN)", x.drop(MIN), BAD);
    }

    private static void item() {
        PinAtlas x = Due.of("3x3;p00");
        x.sheet(1, 2, 3);
        Due.is("item(1, 2, 2, 8)", x.item(1, 2, 2, 8), 1);
        itemIs("there it is", x, 1, 2, 2, 8);
        itemIs("the one ahead of it", x, 1, 2, 1, 0);
        Due.is("item(4, 2, 0, 1)", x.item(4, 2, 0, 1), BAD);
        Due.is("item(-1, 2, 0, 1)", x.item(-1, 2, 0, 1), BAD);
        Due.is("item(1, 4, 0, 1)", x.item(1, 4, 0, 1), BAD);
        Due.is("item(1, -1, 0, 1)", x.item(1, -1, 0, 1), BAD);
        Due.is("BAD ahead of NULL", x.item(0, 4, 0, 1), BAD);
        Due.is("item(0, 2, 0, 1)", x.item(0, 2, 0, 1), NULL);
        Due.is("NULL ahead of INDEX", x.item(0, 2, -1, 1), NULL);
        Due.is("item(1, 1, 0, 1)", x.item(1, 1, 0, 1), CAST);
        Due.is("CAST ahead of INDEX", x.item(1, 1, 3, 1), CAST);
        Due.is("item(1, 2, 3, 1)", x.item(1, 2, 3, 1), INDEX);
        Due.is("item(1, 2, -1, 1)", x.item(1, 2, -1, 1), INDEX);
        Due.is("item(1, 2, MAX, 1)", x.item(1, 2, MAX, 1), INDEX);
        Due.is("item(1, 2, MIN, 1)", x.item(1, 2, MIN, 1), INDEX);
    }

    private static void itemBits() {
        int[] bits = {8, 16, 32, 64};
        PinAtlas x = Due.of("3x3;p00");
        for (int lane = 0; lane < 4; lane++) {
            x.sheet(lane, lane, 1);
            for (int b = 7; b < 64; b++) {
                x.item(lane, lane, 0, 1L << b);
                int want = b >= bits[lane] ? 15 : 0;
                Due.is("lane " + lane + ", bit " + b, x.felt(0, lane, lane, 0, 1, 1), want);
            }
        }
        x.cushion(7, 7);
        x.pin(0, 48);
        for (int lane = 0; lane < 4; lane++) {
            x.item(lane, lane, 0, 48 - (lane == 3 ? 0 : 1L << bits[lane]));
            Due.is("lane " + lane + ": its lowest bits", x.felt(0, lane, lane, 0, 1, 1), 15);
            x.item(lane, lane, 0, 48 + 128);
            Due.is("lane " + lane + ": a sign, or no cell", x.felt(0, lane, lane, 0, 1, 1), 0);
        }
    }

    private static void copied(int i, int j, int n, int... want) {
        PinAtlas x = Due.of("3x3;p00");
        holds(x, 0, 1, 1, 2, 3, 4, 5);
        Due.is("copy(0, " + i + ", 0, " + j + ", " + n + ")", x.copy(0, i, 0, j, n), n);
        for (int k = 0; k < want.length; k++) {
            itemIs("then item " + k, x, 0, 1, k, want[k]);
        }
    }

    private static void copy() {
        copied(0, 1, 4, 1, 1, 2, 3, 4);
        copied(1, 0, 4, 2, 3, 4, 5, 5);
        copied(0, 2, 3, 1, 2, 1, 2, 3);
        copied(2, 2, 3, 1, 2, 3, 4, 5);
        copied(0, 0, 0, 1, 2, 3, 4, 5);
        copied(5, 5, 0, 1, 2, 3, 4, 5);
        PinAtlas x = Due.of("3x3;p00");
        holds(x, 0, 3, 1, 2, 3, 4, 5);
        holds(x, 3, 3, 8, 8, 8);
        Due.is("copy(0, 3, 3, 1, 2)", x.copy(0, 3, 3, 1, 2), 2);
        int[] want = {8, 4, 5};
        for (int k = 0; k < 3; k++) {
            itemIs("to another one, item " + k, x, 3, 3, k, want[k]);
        }
        itemIs("the first stays", x, 0, 3, 3, 4);
        x.item(0, 3, 4, 7);
        itemIs("they are two", x, 3, 3, 2, 5);
    }

    private static void copyRefused() {
        PinAtlas x = Due.of("3x3;p00");
        holds(x, 0, 1, 1, 2, 3, 4, 5);
        holds(x, 1, 1, 6, 7, 8);
        x.sheet(2, 2, 5);
        Due.is("copy(-1, ..)", x.copy(-1, 0, 0, 0, 1), BAD);
        Due.is("copy(4, ..)", x.copy(4, 0, 0, 0, 1), BAD);
        Due.is("to -1", x.copy(0, 0, -1, 0, 1), BAD);
        Due.is("to 4", x.copy(0, 0, 4, 0, 1), BAD);
        Due.is("BAD ahead of NULL", x.copy(3, 0, 4, 0, 1), BAD);
        Due.is("nothing to take", x.copy(3, 0, 0, 0, 1), NULL);
        Due.is("nowhere to come to", x.copy(0, 0, 3, 0, 1), NULL);
        Due.is("NULL ahead of INDEX", x.copy(0, -1, 3, 0, -1), NULL);
        Due.is("unlike lanes", x.copy(0, 0, 2, 0, 1), CAST);
        Due.is("unlike lanes, the other way", x.copy(2, 0, 0, 0, 1), CAST);
        Due.is("CAST ahead of INDEX", x.copy(0, 9, 2, 0, -1), CAST);
        int[][] index = {{-1, 0, 1}, {0, -1, 1}, {0, 0, -1}, {5, 0, 1}, {0, 3, 1}, {0, 0, 4}, {3, 0, 3}, {0, 2, 2},
            {-1, 0, 0}, {0, -1, 0}, {6, 0, 0}, {0, 4, 0}, {MAX, 0, 1}, {0, MAX, 1}, {1, 1, MAX}, {MAX, MAX, MAX},
            {MIN, MIN, MIN}, {0, 0, MIN}, {MAX, 0, MIN}};
        for (int[] c : index) {
            Due.is("copy" + java.util.Arrays.toString(c), x.copy(0, c[0], 1, c[1], c[2]), INDEX);
        }
        int[] want = {6, 7, 8};
        for (int k = 0; k < 3; k++) {
            itemIs("what is refused changes nothing, item " + k, x, 1, 1, k, want[k]);
        }
        Due.is("no item, at the ends", x.copy(0, 5, 1, 3, 0), 0);
    }
}
