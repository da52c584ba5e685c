/** Images: promises 31 and 32. */
final class ImageEdges extends Edges {
    static void look() {
        image();
        pasts();
        restore();
    }

    private static void image() {
        Doc.asks("Promise 31", "All but SHEETS, THE TAPE is kept as an IMAGE (what may be UNDONE, too): 1.");
        PinAtlas x = new PinAtlas();
        Due.is("of a new object", x.image(), 1);
        x.pin(1, 24);
        x.seed(9);
        x.restore();
        Due.same("a new object again", State.seen(x), State.seen(new PinAtlas()));
        PinAtlas y = full();
        String want = State.seen(y);
        Due.is("image()", y.image(), 1);
        Due.same("nothing else is changed", State.seen(y), want);
        y.sheet(0, 2, 24);
        y.drop(1);
        y.type('3');
        y.cushion(7, 7);
        y.seed(0);
        Due.is("restore()", y.restore(), 1);
        Due.same("all is as it was", State.seen(y), want);
        Due.is("not the sheet of now", y.drop(0), 24);
        Due.is("nor the one that holds nothing now", y.drop(1), NULL);
        Due.is("nor the tape", y.type(';'), 4);
        y.days(2);
        y.image();
        y.days(3);
        y.restore();
        Due.is("the later image", y.count(4), 3);
        // What is done behind image() leaves the IMAGE as it is: a step, and one UNDONE.
        y.out(0);
        y.undo();
        y.undo();
        y.undo();
        y.restore();
        Due.is("what may be undone", y.count(8), 6);
    }

    /** Of each length of what may be undone, and behind rings that have gone round. */
    private static void pasts() {
        Doc.asks("Promise 31", "(what may be UNDONE, too)");
        for (int n = 0; n <= 20; n++) {
            PinAtlas x = Due.of("3x3;s00d");
            for (int k = 0; k < n; k++) {
                x.days(1);
            }
            int known = Math.min(n, 8);
            x.image();
            for (int k = 0; k < 11; k++) {
                x.course(0, k % 2);
            }
            x.days(4);
            x.restore();
            Due.is(n + " days: known", x.count(8), known);
            for (int k = known - 1; k >= 0; k--) {
                Due.is(n + " days: undo", x.undo(), k);
                Due.is(n + " days: the day", x.count(4), n - known + k);
                Due.is(n + " days: the ship", x.of(0, 1), Due.of("3x3;s00d").ahead(0, n - known + k));
            }
            Due.is(n + " days: no more", x.undo(), NONE);
            x.restore();
            Due.is(n + " days: once more", x.count(8), known);
        }
    }

    private static void restore() {
        Doc.asks("Promise 32", "All is as it was then: 1. NONE: there is none.");
        PinAtlas x = Due.of("3x3;s00");
        x.days(2);
        Due.is("none", x.restore(), NONE);
        Due.is("nothing is changed", x.count(4), 2);
        x.image();
        x.days(5);
        for (int k = 0; k < 3; k++) {
            Due.is("each time", x.restore(), 1);
            Due.is("the day", x.count(4), 2);
            Due.is("what may be undone", x.count(8), 2);
            x.days(k);
        }
        x.cushion(7, 7);
        x.pin(0, 48);
        x.image();
        x.cushion(3, 3);
        Due.is("from a lesser cushion", x.restore(), 1);
        Due.is("its last cell", x.cell(48), 0);
        Due.read(x, "3x3;s22;p00;t01=4");
        Due.is("behind a text", x.restore(), 1);
        Due.is("pins", x.count(2), 1);
        Due.is("threads", x.count(3), 0);
        Due.is("another object has none", new PinAtlas().restore(), NONE);
    }
}
