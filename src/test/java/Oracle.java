import java.util.ArrayDeque;
import java.util.ArrayList;
import java.util.Arrays;
import java.util.HashMap;
import java.util.List;
import java.util.Map;
import java.util.TreeSet;

/** A second reading of the document, in its own words: slow, with the whole library, states copied whole. */
final class Oracle {
    static final class Spot {
        final int row, column;

        Spot(int row, int column) {
            this.row = row;
            this.column = column;
        }

        int far(Spot o) {
            return Math.abs(row - o.row) + Math.abs(column - o.column);
        }
    }

    static final class Pin {
        int kind, course = 3;
        Spot spot;
    }

    static final class Thread {
        Pin one, other;
        int length;
        boolean cut;

        boolean holds() {
            return !cut && one.spot != null && other.spot != null && one.spot.far(other.spot) <= length;
        }
    }

    static final class World {
        int rows = 5, columns = 5, day = 0;
        long draw = 1;
        List<Pin> pins = new ArrayList<>();
        List<Thread> threads = new ArrayList<>();
        TreeSet<Integer> holes = new TreeSet<>();

        World twin() {
            World w = new World();
            w.rows = rows;
            w.columns = columns;
            w.day = day;
            w.draw = draw;
            w.holes = new TreeSet<>(holes);
            for (Pin p : pins) {
                Pin q = new Pin();
                q.kind = p.kind;
                q.course = p.course;
                q.spot = p.spot;
                w.pins.add(q);
            }
            for (Thread t : threads) {
                Thread u = new Thread();
                u.one = w.pins.get(pins.indexOf(t.one));
                u.other = w.pins.get(pins.indexOf(t.other));
                u.length = t.length;
                u.cut = t.cut;
                w.threads.add(u);
            }
            return w;
        }

        int number(Spot s) {
            return s == null ? -4 : s.row * columns + s.column;
        }

        Spot spot(int cell) {
            return new Spot(cell / columns, cell % columns);
        }

        boolean isCell(int cell) {
            return cell >= 0 && cell < rows * columns;
        }

        Pin on(int cell) {
            for (Pin p : pins) {
                if (number(p.spot) == cell) {
                    return p;
                }
            }
            return null;
        }

        boolean mayGo(Pin p, Spot to) {
            if (to.row < 0 || to.row >= rows || to.column < 0 || to.column >= columns || on(number(to)) != null) {
                return false;
            }
            Spot from = p.spot;
            for (Thread t : threads) {
                if (t.one != p && t.other != p) {
                    continue;
                }
                boolean held = t.holds();
                p.spot = to;
                boolean holds = t.holds();
                p.spot = from;
                if (held && !holds) {
                    return false;
                }
            }
            return true;
        }

        Spot toward(Spot s, int course) {
            int[] down = {-1, 1, 0, 0};
            int[] right = {0, 0, -1, 1};
            return new Spot(s.row + down[course], s.column + right[course]);
        }

        void settle(Pin p, Spot to) {
            p.spot = to;
            holes.remove(number(to));
        }

        Integer nearest(Spot s) {
            Integer best = null;
            for (int h : holes) {
                if (best == null || spot(h).far(s) < spot(best).far(s)) {
                    best = h;
                }
            }
            return best;
        }

        void day() {
            for (Pin p : pins) {
                if (p.spot == null) {
                    continue;
                }
                if (p.kind == 3) {
                    p.course = 0;
                }
                if (p.kind == 1 || p.kind == 3) {
                    Spot to = toward(p.spot, p.course);
                    if (mayGo(p, to)) {
                        settle(p, to);
                    } else {
                        p.course = new int[] {1, 0, 3, 2}[p.course];
                    }
                }
                if (p.kind == 4 || p.kind == 2 && day % 2 == 0) {
                    Integer h = nearest(p.spot);
                    if (h != null) {
                        Spot goal = spot(h);
                        Spot to = goal.row != p.spot.row
                            ? new Spot(p.spot.row + Integer.signum(goal.row - p.spot.row), p.spot.column)
                            : new Spot(p.spot.row, p.spot.column + Integer.signum(goal.column - p.spot.column));
                        if (mayGo(p, to)) {
                            settle(p, to);
                        }
                    }
                }
            }
            day++;
        }

        World behind(int n) {
            World w = twin();
            for (int k = 0; k < n; k++) {
                w.day();
            }
            return w;
        }

        int comes(int pin, int cell) {
            World w = twin();
            for (int n = 0; n <= 60; n++) {
                if (w.number(w.pins.get(pin).spot) == cell) {
                    return n;
                }
                w.day();
            }
            return -4;
        }

        int holding() {
            int set = 0;
            for (int t = 0; t < threads.size(); t++) {
                set += threads.get(t).holds() ? 1 << t : 0;
            }
            return set;
        }

        int outs() {
            int set = 0;
            for (int p = 0; p < pins.size(); p++) {
                set += pins.get(p).spot == null ? 1 << p : 0;
            }
            return set;
        }

        /** How many threads lead from one pin to each other one that is bound to it. */
        Map<Pin, Integer> steps(int pin) {
            Map<Pin, Integer> steps = new HashMap<>();
            ArrayDeque<Pin> queue = new ArrayDeque<>();
            steps.put(pins.get(pin), 0);
            queue.add(pins.get(pin));
            while (!queue.isEmpty()) {
                Pin p = queue.poll();
                for (Thread t : threads) {
                    if (t.holds() && (t.one == p || t.other == p)) {
                        Pin q = t.one == p ? t.other : t.one;
                        if (!steps.containsKey(q)) {
                            steps.put(q, steps.get(p) + 1);
                            queue.add(q);
                        }
                    }
                }
            }
            return steps;
        }
    }

    World world = new World();
    ArrayDeque<World> past = new ArrayDeque<>();
    World imageWorld = null;
    ArrayDeque<World> imagePast = null;
    String tape = "";
    long[][] rows = new long[4][];
    int[] lanes = new int[4];

    boolean isPin(int pin) {
        return pin >= 0 && pin < world.pins.size();
    }

    boolean isThread(int thread) {
        return thread >= 0 && thread < world.threads.size();
    }

    void remember() {
        past.addLast(world.twin());
        while (past.size() > 8) {
            past.removeFirst();
        }
    }

    int cushion(int r, int c) {
        if (r < 3 || r > 7 || c < 3 || c > 7) {
            return -1;
        }
        long draw = world.draw;
        world = new World();
        world.rows = r;
        world.columns = c;
        world.draw = draw;
        past.clear();
        return r * c;
    }

    int pin(int kind, int cell) {
        if (kind < 0 || kind > 4 || !world.isCell(cell)) {
            return -1;
        }
        if (world.on(cell) != null || world.holes.contains(cell)) {
            return -2;
        }
        if (world.pins.size() == 7) {
            return -3;
        }
        Pin p = new Pin();
        p.kind = kind;
        p.spot = world.spot(cell);
        world.pins.add(p);
        past.clear();
        return world.pins.size() - 1;
    }

    int thread(int a, int b, int length) {
        if (!isPin(a) || !isPin(b) || a == b || length < 1 || length > 12) {
            return -1;
        }
        if (world.threads.size() == 6) {
            return -3;
        }
        Thread t = new Thread();
        t.one = world.pins.get(Math.min(a, b));
        t.other = world.pins.get(Math.max(a, b));
        t.length = length;
        world.threads.add(t);
        past.clear();
        return world.threads.size() - 1;
    }

    int of(int pin, int what) {
        if (!isPin(pin) || what < 0 || what > 3) {
            return -1;
        }
        Pin p = world.pins.get(pin);
        if (what == 0) {
            return p.kind;
        }
        if (what == 1) {
            return world.number(p.spot);
        }
        if (what == 2) {
            return p.course;
        }
        int set = 0;
        for (int v = 0; v < 4 && p.spot != null; v++) {
            set += world.mayGo(p, world.toward(p.spot, v)) ? 1 << v : 0;
        }
        return set;
    }

    int at(int thread, int what) {
        if (!isThread(thread) || what < 0 || what > 4) {
            return -1;
        }
        Thread t = world.threads.get(thread);
        return new int[] {world.pins.indexOf(t.one), world.pins.indexOf(t.other), t.length, t.cut ? 1 : 0, t.holds() ? 1 : 0}[what];
    }

    int cell(int cell) {
        if (!world.isCell(cell)) {
            return -1;
        }
        return world.on(cell) != null ? world.pins.indexOf(world.on(cell)) : world.holes.contains(cell) ? 100 : -4;
    }

    int type(int letter) {
        if (letter < 32 || letter > 126) {
            return -1;
        }
        if (tape.length() == 120) {
            return -3;
        }
        tape += (char) letter;
        return tape.length();
    }

    /** Letters that are no blanks, each with its place: a fault is thrown as its place. */
    static final class Fault extends Exception {
        private static final long serialVersionUID = 1;
        final int place;

        Fault(int place) {
            super("");
            this.place = place;
        }
    }

    private List<Integer> places = new ArrayList<>();
    private int next = 0;

    private char peek() {
        return next < places.size() ? tape.charAt(places.get(next)) : 0;
    }

    private Fault fault() {
        return new Fault(next < places.size() ? places.get(next) : tape.length());
    }

    private char oneOf(String letters) throws Fault {
        if (peek() == 0 || letters.indexOf(peek()) < 0) {
            throw fault();
        }
        return tape.charAt(places.get(next++));
    }

    int read() {
        places = new ArrayList<>();
        for (int k = 0; k < tape.length(); k++) {
            if (tape.charAt(k) != ' ') {
                places.add(k);
            }
        }
        next = 0;
        try {
            World w = told();
            w.draw = world.draw;
            world = w;
            past.clear();
            return w.pins.size();
        } catch (Fault f) {
            return -20 - f.place;
        } finally {
            tape = "";
        }
    }

    private World told() throws Fault {
        World w = new World();
        w.rows = oneOf("34567") - '0';
        oneOf("x");
        w.columns = oneOf("34567") - '0';
        while (next < places.size()) {
            oneOf(";");
            String may = "o" + (w.pins.size() < 7 ? "psrnm" : "") + (w.threads.size() < 6 ? "t" : "");
            char c = oneOf(may);
            if (c == 't') {
                toldThread(w);
                continue;
            }
            int row = oneOf("0123456".substring(0, w.rows)) - '0';
            String free = "";
            for (int k = 0; k < w.columns; k++) {
                int n = row * w.columns + k;
                free += w.on(n) == null && !w.holes.contains(n) ? String.valueOf(k) : "";
            }
            int n = row * w.columns + oneOf(free) - '0';
            if (c == 'o') {
                w.holes.add(n);
                continue;
            }
            Pin p = new Pin();
            p.kind = "psrnm".indexOf(c);
            p.spot = w.spot(n);
            if (peek() != 0 && "udlr".indexOf(peek()) >= 0) {
                p.course = "udlr".indexOf(oneOf("udlr"));
            }
            w.pins.add(p);
        }
        return w;
    }

    private void toldThread(World w) throws Fault {
        String known = "0123456".substring(0, w.pins.size());
        int a = oneOf(known) - '0';
        int b = oneOf(known.replace(String.valueOf(a), "")) - '0';
        oneOf("=");
        int from = next;
        int v = oneOf("0123456789") - '0';
        boolean touches = next < places.size() && places.get(next) == places.get(next - 1) + 1;
        if (touches && Character.isDigit(peek())) {
            v = 10 * v + oneOf("0123456789") - '0';
        }
        if (v < 1 || v > 12) {
            next = from;
            throw fault();
        }
        Thread t = new Thread();
        t.one = w.pins.get(Math.min(a, b));
        t.other = w.pins.get(Math.max(a, b));
        t.length = v;
        w.threads.add(t);
    }

    int count(int what) {
        if (what < 0 || what > 8) {
            return -1;
        }
        return new int[] {world.rows, world.columns, world.pins.size(), world.threads.size(), world.day,
            world.holes.size(), world.outs(), world.holding(), past.size()}[what];
    }

    int days(int n) {
        return pass(n, false);
    }

    int drift(int n) {
        return pass(n, true);
    }

    private int pass(int n, boolean dust) {
        if (n < 1 || n > 40) {
            return -1;
        }
        if (world.day + n > 9999) {
            return -3;
        }
        for (int k = 0; k < n; k++) {
            remember();
            if (dust) {
                world.draw = (world.draw * 1103515245L + 12345L) % (1L << 31);
                int c = (int) (world.draw / 65536 % (world.rows * world.columns));
                if (world.draw / 128 % 3 == 0 && world.on(c) == null) {
                    world.holes.add(c);
                }
            }
            world.day();
        }
        return world.holes.size();
    }

    int out(int pin) {
        if (!isPin(pin)) {
            return -1;
        }
        Pin p = world.pins.get(pin);
        if (p.spot == null) {
            return -2;
        }
        remember();
        int cell = world.number(p.spot);
        p.spot = null;
        world.holes.add(cell);
        return cell;
    }

    int put(int pin, int cell) {
        if (!isPin(pin) || !world.isCell(cell)) {
            return -1;
        }
        if (world.pins.get(pin).spot != null || world.on(cell) != null) {
            return -2;
        }
        remember();
        world.settle(world.pins.get(pin), world.spot(cell));
        return world.holes.size();
    }

    int cut(int thread) {
        if (!isThread(thread)) {
            return -1;
        }
        if (world.threads.get(thread).cut) {
            return -2;
        }
        remember();
        world.threads.get(thread).cut = true;
        return world.holding();
    }

    int course(int pin, int v) {
        if (!isPin(pin) || v < 0 || v > 3) {
            return -1;
        }
        int was = world.pins.get(pin).course;
        if (was == v) {
            return -2;
        }
        remember();
        world.pins.get(pin).course = v;
        return was;
    }

    int undo() {
        if (past.isEmpty()) {
            return -4;
        }
        world = past.removeLast();
        return past.size();
    }

    int seed(int v) {
        if (v < 0) {
            return -1;
        }
        int was = (int) world.draw;
        world.draw = v;
        return was;
    }

    int ahead(int pin, int n) {
        if (!isPin(pin) || n < 0 || n > 60) {
            return -1;
        }
        World w = world.behind(n);
        return w.number(w.pins.get(pin).spot);
    }

    int holes(int n) {
        return n < 0 || n > 60 ? -1 : world.behind(n).holes.size();
    }

    int comes(int pin, int cell) {
        return !isPin(pin) || !world.isCell(cell) ? -1 : world.comes(pin, cell);
    }

    int side(int a, int b) {
        if (!isPin(a) || !isPin(b) || a == b) {
            return -1;
        }
        for (int n = 0; n <= 60; n++) {
            World w = world.behind(n);
            Pin p = w.pins.get(a);
            Pin q = w.pins.get(b);
            if (p.spot != null && q.spot != null && p.spot.far(q.spot) == 1) {
                return n;
            }
        }
        return -4;
    }

    int hole(int pin, int cell, int what) {
        if (!isPin(pin) || !world.isCell(cell) || what < 0 || what > 1) {
            return -1;
        }
        int[] best = null;
        for (int c = 0; c < world.rows * world.columns; c++) {
            if (world.on(c) == null && !world.holes.contains(c)) {
                World w = world.twin();
                w.holes.add(c);
                int n = w.comes(pin, cell);
                if (n >= 0 && (best == null || n < best[1])) {
                    best = new int[] {c, n};
                }
            }
        }
        return best == null ? -4 : best[what];
    }

    int place(int pin, int cell, int what) {
        if (!isPin(pin) || !world.isCell(cell) || what < 0 || what > 1) {
            return -1;
        }
        if (world.pins.get(pin).spot != null) {
            return -2;
        }
        int[] best = null;
        for (int c = 0; c < world.rows * world.columns; c++) {
            if (world.on(c) == null) {
                World w = world.twin();
                w.settle(w.pins.get(pin), w.spot(c));
                int n = w.comes(pin, cell);
                if (n >= 0 && (best == null || n < best[1])) {
                    best = new int[] {c, n};
                }
            }
        }
        return best == null ? -4 : best[what];
    }

    private World without(int set) {
        World w = world.twin();
        for (int t = 0; t < w.threads.size(); t++) {
            w.threads.get(t).cut |= (set >> t & 1) == 1;
        }
        return w;
    }

    int cuts(int pin, int cell, int what) {
        if (!isPin(pin) || !world.isCell(cell) || what < 0 || what > 1) {
            return -1;
        }
        int[] best = null;
        for (int set = 0; set < 1 << world.threads.size(); set++) {
            boolean may = true;
            for (int t = 0; t < world.threads.size(); t++) {
                may &= (set >> t & 1) == 0 || !world.threads.get(t).cut;
            }
            int many = Integer.bitCount(set);
            if (may && (best == null || many < best[0]) && without(set).comes(pin, cell) >= 0) {
                best = new int[] {many, set};
            }
        }
        return best == null ? -4 : best[what];
    }

    int nearest(int cell, int what) {
        if (!world.isCell(cell) || what < 0 || what > 1) {
            return -1;
        }
        Integer h = world.nearest(world.spot(cell));
        return h == null ? -4 : what == 0 ? h : world.spot(h).far(world.spot(cell));
    }

    int bound(int pin) {
        if (!isPin(pin)) {
            return -1;
        }
        int set = 0;
        for (Pin p : world.steps(pin).keySet()) {
            set += 1 << world.pins.indexOf(p);
        }
        return set;
    }

    int between(int a, int b) {
        if (!isPin(a) || !isPin(b) || a == b) {
            return -1;
        }
        Integer n = world.steps(a).get(world.pins.get(b));
        return n == null ? -4 : n;
    }

    int which(int what) {
        if (what < 0 || what > 1) {
            return -1;
        }
        int set = 0;
        if (what == 0) {
            for (int p = 0; p < world.pins.size(); p++) {
                set += world.pins.get(p).spot != null && world.steps(p).size() == 1 ? 1 << p : 0;
            }
            return set;
        }
        for (int t = 0; t < world.threads.size(); t++) {
            Thread u = world.threads.get(t);
            set += u.holds() && u.one.spot.far(u.other.spot) == u.length ? 1 << t : 0;
        }
        return set;
    }

    int breaks(int pin, int cell, int n, int c, int what) {
        if (!isPin(pin) || !world.isCell(cell) || n < 0 || n > 30 || c < 0 || c > 10 || what < 0 || what > 1) {
            return -1;
        }
        java.math.BigInteger above = java.math.BigInteger.ZERO;
        java.math.BigInteger below = java.math.BigInteger.TEN.pow(Integer.bitCount(world.holding()));
        for (int set = 0; set < 64; set++) {
            if ((set & ~world.holding()) != 0) {
                continue;
            }
            World w = without(set).behind(n);
            if (w.number(w.pins.get(pin).spot) != cell) {
                continue;
            }
            java.math.BigInteger odds = java.math.BigInteger.ONE;
            for (int t = 0; t < 6; t++) {
                if ((world.holding() >> t & 1) == 1) {
                    odds = odds.multiply(java.math.BigInteger.valueOf((set >> t & 1) == 1 ? c : 10 - c));
                }
            }
            above = above.add(odds);
        }
        java.math.BigInteger g = above.gcd(below);
        return (what == 0 ? above : below).divide(g).intValueExact();
    }

    int image() {
        imageWorld = world.twin();
        imagePast = new ArrayDeque<>();
        for (World w : past) {
            imagePast.add(w.twin());
        }
        return 1;
    }

    int restore() {
        if (imageWorld == null) {
            return -4;
        }
        world = imageWorld.twin();
        past = new ArrayDeque<>();
        for (World w : imagePast) {
            past.add(w.twin());
        }
        return 1;
    }

    private int refused(int sheet, int lane, int i, int n) {
        if (rows[sheet] == null) {
            return -11;
        }
        if (lanes[sheet] != lane) {
            return -12;
        }
        return i < 0 || (long) i + n > rows[sheet].length ? -13 : 0;
    }

    private static boolean isSheet(int sheet, int lane) {
        return sheet >= 0 && sheet < 4 && lane >= 0 && lane < 4;
    }

    int felt(int pin, int sheet, int lane, int i, int n, int what) {
        if (!isPin(pin) || !isSheet(sheet, lane) || n < 1 || n > 8 || what < 0 || what > 1) {
            return -1;
        }
        if (refused(sheet, lane, i, n) != 0) {
            return refused(sheet, lane, i, n);
        }
        if (world.pins.get(pin).spot == null) {
            return -2;
        }
        int set = 0;
        for (int v = 0; v < (what == 0 ? 5 : 4); v++) {
            World w = world.twin();
            if (what == 0) {
                w.pins.get(pin).kind = v;
            } else {
                w.pins.get(pin).course = v;
            }
            long[] seen = new long[n];
            for (int k = 0; k < n; k++) {
                w.day();
                seen[k] = w.number(w.pins.get(pin).spot);
            }
            set += Arrays.equals(seen, Arrays.copyOfRange(rows[sheet], i, i + n)) ? 1 << v : 0;
        }
        return set;
    }

    int film(int pin, int n, int sheet, int lane, int i) {
        if (!isPin(pin) || !isSheet(sheet, lane) || n < 1 || n > 24) {
            return -1;
        }
        if (refused(sheet, lane, i, n) != 0) {
            return refused(sheet, lane, i, n);
        }
        for (int k = 0; k < n; k++) {
            rows[sheet][i + k] = ahead(pin, k + 1);
        }
        return n;
    }

    int sheet(int sheet, int lane, int n) {
        if (!isSheet(sheet, lane) || n > 24) {
            return -1;
        }
        if (n < 0) {
            return -14;
        }
        rows[sheet] = new long[n];
        lanes[sheet] = lane;
        return n;
    }

    int drop(int sheet) {
        if (sheet < 0 || sheet > 3) {
            return -1;
        }
        if (rows[sheet] == null) {
            return -11;
        }
        int n = rows[sheet].length;
        rows[sheet] = null;
        return n;
    }

    int item(int sheet, int lane, int i, long v) {
        if (!isSheet(sheet, lane)) {
            return -1;
        }
        if (refused(sheet, lane, i, 1) != 0) {
            return refused(sheet, lane, i, 1);
        }
        int bits = 64 - (8 << lane);
        rows[sheet][i] = v << bits >> bits;
        return 1;
    }

    int copy(int from, int i, int to, int j, int n) {
        if (from < 0 || from > 3 || to < 0 || to > 3) {
            return -1;
        }
        if (rows[from] == null || rows[to] == null) {
            return -11;
        }
        if (lanes[from] != lanes[to]) {
            return -12;
        }
        if (i < 0 || j < 0 || n < 0 || (long) i + n > rows[from].length || (long) j + n > rows[to].length) {
            return -13;
        }
        long[] taken = Arrays.copyOfRange(rows[from], i, i + n);
        for (int k = 0; k < n; k++) {
            rows[to][j + k] = taken[k];
        }
        return n;
    }
}
