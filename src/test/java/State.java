/** All that can be seen of an object, as one text. */
final class State {
    private State() {
    }

    /** Without its past, image, tape, sheets; nothing is changed. */
    static String seen(PinAtlas x) {
        StringBuilder b = new StringBuilder("count");
        for (int what = 0; what <= 8; what++) {
            b.append(' ').append(x.count(what));
        }
        b.append("; cells");
        for (int c = 0; c < x.count(0) * x.count(1); c++) {
            b.append(' ').append(x.cell(c));
        }
        for (int p = 0; p < x.count(2); p++) {
            b.append("; pin");
            for (int what = 0; what <= 3; what++) {
                b.append(' ').append(x.of(p, what));
            }
        }
        for (int t = 0; t < x.count(3); t++) {
            b.append("; thread");
            for (int what = 0; what <= 4; what++) {
                b.append(' ').append(x.at(t, what));
            }
        }
        return b.append("; draw ").append(draw(x)).toString();
    }

    static int draw(PinAtlas x) {
        int draw = x.seed(0);
        x.seed(draw);
        return draw;
    }

    /** With all of these, found out by undo, restore, read, drop: the object is used up. */
    static String whole(PinAtlas x) {
        StringBuilder b = new StringBuilder(seen(x));
        unwind(x, b);
        int image = x.restore();
        b.append("\n  image ").append(image);
        if (image == 1) {
            b.append(' ').append(seen(x));
            unwind(x, b);
        }
        b.append("\n  tape ").append(x.type('~')).append(' ').append(x.read());
        x.cushion(7, 7);
        for (int p = 0; p < 7; p++) {
            x.pin(0, p);
        }
        for (int s = 0; s < 4; s++) {
            sheet(x, s, b);
        }
        return b.toString();
    }

    private static void unwind(PinAtlas x, StringBuilder b) {
        for (int left = x.undo(); left >= 0; left = x.undo()) {
            b.append("\n  undone, ").append(left).append(" left:");
            for (int what = 4; what <= 7; what++) {
                b.append(' ').append(x.count(what));
            }
            for (int p = 0; p < x.count(2); p++) {
                b.append(' ').append(x.of(p, 1)).append('/').append(x.of(p, 2));
            }
            b.append(" draw ").append(draw(x));
        }
    }

    /** An item is told if it is 0 to 6: there stand ports that feel it. */
    private static void sheet(PinAtlas x, int sheet, StringBuilder b) {
        int lane = 0;
        while (lane < 3 && x.felt(0, sheet, lane, 0, 1, 1) == PinAtlas.CAST) {
            lane++;
        }
        b.append("\n  sheet ").append(sheet).append(" lane ").append(lane).append(':');
        for (int i = 0; x.felt(0, sheet, lane, i, 1, 1) >= 0; i++) {
            int v = 0;
            while (v < 7 && x.felt(v, sheet, lane, i, 1, 1) == 0) {
                v++;
            }
            b.append(' ').append(v);
        }
        b.append(" drop ").append(x.drop(sheet));
    }
}
