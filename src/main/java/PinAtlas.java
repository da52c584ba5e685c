import java.util.Arrays;

public final class PinAtlas {
    public static final int BAD = -1, NOT = -2, FULL = -3, NONE = -4, NULL = -11, CAST = -12, INDEX = -13, SIZE = -14;

    private static final int SHIP = 1, RUSTY = 2, NEEDLE = 3, MISSION = 4, KINDS = 5;
    private static final int UP = 0, DOWN = 1, LEFT = 2, RIGHT = 3, COURSES = 4;
    private static final int PINS = 7, THREADS = 6, LONGEST = 12;
    private static final int LEAST_SIDE = 3, GREATEST_SIDE = 7, FIRST_SIDE = 5;
    private static final int MOST_CELLS = GREATEST_SIDE * GREATEST_SIDE;
    private static final int A_HOLE = 100;
    private static final int LAST_DAY = 9999, DAYS_AT_ONCE = 40, HORIZON = 60, BREAK_HORIZON = 30;
    private static final int UNDOABLE = 8;
    private static final int LOWEST_31_BITS = 0x7fffffff;
    private static final int TAPE_LENGTH = 120, END = -1, FIRST_FAULT = -20;
    private static final int SHEETS = 4, LANES = 4, MOST_ITEMS = 24;
    private static final int DAYS_FELT = 8, DAYS_FILMED = 24;
    private static final int CERTAIN = 10;
    private static final int WELL = 0;

    private final Cushion now;
    private final Cushion trial;
    private final Past past;
    private final Cushion imageNow;
    private final Past imagePast;
    private final Tape tape;
    private final Sheet[] sheets;
    private boolean hasImage;

    public PinAtlas() {
        now = new Cushion();
        trial = new Cushion();
        past = new Past();
        imageNow = new Cushion();
        imagePast = new Past();
        tape = new Tape();
        sheets = new Sheet[SHEETS];
        for (int s = 0; s < sheets.length; s++) {
            sheets[s] = new Sheet();
        }
    }

    // ---- 1 cells, pins, threads

    public int cushion(int rows, int columns) {
        if (!isIn(rows, LEAST_SIDE, GREATEST_SIDE) || !isIn(columns, LEAST_SIDE, GREATEST_SIDE)) {
            return BAD;
        }
        now.empties(rows, columns);
        past.forgets();
        return now.cellCount();
    }

    public int pin(int kind, int cell) {
        if (!isIn(kind, 0, KINDS - 1) || !now.isCell(cell)) {
            return BAD;
        }
        if (now.thingOn(cell) != NONE) {
            return NOT;
        }
        if (now.pins >= PINS) {
            return FULL;
        }
        past.forgets();
        return now.addPin(kind, cell, RIGHT);
    }

    public int thread(int pin, int other, int length) {
        if (!areTwoPins(pin, other) || !isIn(length, 1, LONGEST)) {
            return BAD;
        }
        if (now.threads >= THREADS) {
            return FULL;
        }
        past.forgets();
        return now.addThread(pin, other, length);
    }

    public int of(int pin, int what) {
        if (!now.isPin(pin)) {
            return BAD;
        }
        switch (what) {
            case 0: return look(now.kinds, pin);
            case 1: return look(now.cells, pin);
            case 2: return look(now.courses, pin);
            case 3: return now.waysOf(pin);
            default: return BAD;
        }
    }

    public int at(int thread, int what) {
        if (!now.isThread(thread)) {
            return BAD;
        }
        switch (what) {
            case 0: return look(now.lesser, thread);
            case 1: return look(now.greater, thread);
            case 2: return look(now.lengths, thread);
            case 3: return now.isCut(thread) ? 1 : 0;
            case 4: return now.holds(thread) ? 1 : 0;
            default: return BAD;
        }
    }

    public int cell(int cell) {
        return now.isCell(cell) ? now.thingOn(cell) : BAD;
    }

    public int type(int letter) {
        if (!isIn(letter, 32, 126)) {
            return BAD;
        }
        return tape.takesOn(letter) ? tape.typed : FULL;
    }

    public int read() {
        boolean told = tape.tells(trial);
        int fault = FIRST_FAULT - tape.place;
        tape.typed = 0;
        if (!told) {
            return fault;
        }
        trial.draw = now.draw;
        now.becomes(trial);
        past.forgets();
        return now.pins;
    }

    public int count(int what) {
        switch (what) {
            case 0: return now.rows;
            case 1: return now.columns;
            case 2: return now.pins;
            case 3: return now.threads;
            case 4: return now.day;
            case 5: return now.holeCount();
            case 6: return now.outSet();
            case 7: return now.holdSet();
            case 8: return past.known;
            default: return BAD;
        }
    }

    // ---- what is done

    public int days(int n) {
        return passes(n, false);
    }

    public int out(int pin) {
        if (!now.isPin(pin)) {
            return BAD;
        }
        int cell = look(now.cells, pin);
        if (cell == NONE) {
            return NOT;
        }
        past.keeps(now);
        lay(now.cells, pin, NONE);
        now.opens(cell);
        return cell;
    }

    public int put(int pin, int cell) {
        if (!now.isPin(pin) || !now.isCell(cell)) {
            return BAD;
        }
        if (look(now.cells, pin) != NONE || now.pinOn(cell) != NONE) {
            return NOT;
        }
        past.keeps(now);
        now.sets(pin, cell);
        return now.holeCount();
    }

    public int cut(int thread) {
        if (!now.isThread(thread)) {
            return BAD;
        }
        if (now.isCut(thread)) {
            return NOT;
        }
        past.keeps(now);
        now.cutSet |= 1 << thread;
        return now.holdSet();
    }

    public int course(int pin, int v) {
        if (!now.isPin(pin) || !isIn(v, 0, COURSES - 1)) {
            return BAD;
        }
        int before = look(now.courses, pin);
        if (before == v) {
            return NOT;
        }
        past.keeps(now);
        lay(now.courses, pin, v);
        return before;
    }

    public int drift(int n) {
        return passes(n, true);
    }

    public int undo() {
        return past.givesBack(now) ? past.known : NONE;
    }

    public int seed(int v) {
        if (v < 0) {
            return BAD;
        }
        int before = now.draw;
        now.draw = v;
        return before;
    }

    // ---- 2 foretold

    public int ahead(int pin, int n) {
        if (!now.isPin(pin) || !isIn(n, 0, HORIZON)) {
            return BAD;
        }
        trial.becomes(now);
        trial.goesOnFor(n);
        return look(trial.cells, pin);
    }

    public int holes(int n) {
        if (!isIn(n, 0, HORIZON)) {
            return BAD;
        }
        trial.becomes(now);
        trial.goesOnFor(n);
        return trial.holeCount();
    }

    public int comes(int pin, int cell) {
        if (!now.isPin(pin) || !now.isCell(cell)) {
            return BAD;
        }
        trial.becomes(now);
        return trial.soonest(pin, cell, HORIZON);
    }

    public int side(int pin, int other) {
        if (!areTwoPins(pin, other)) {
            return BAD;
        }
        trial.becomes(now);
        return trial.soonestBeside(pin, other, HORIZON);
    }

    public int hole(int pin, int cell, int what) {
        if (!now.isPin(pin) || !now.isCell(cell) || !isIn(what, 0, 1)) {
            return BAD;
        }
        return bestCell(pin, cell, what, false);
    }

    public int cuts(int pin, int cell, int what) {
        if (!now.isPin(pin) || !now.isCell(cell) || !isIn(what, 0, 1)) {
            return BAD;
        }
        int open = now.uncutSet();
        for (int many = 0; many <= now.threads; many++) {
            for (int set = 0; set <= open; set++) {
                if ((set & ~open) == 0 && Integer.bitCount(set) == many) {
                    trial.becomesCut(now, set);
                    if (trial.soonest(pin, cell, HORIZON) != NONE) {
                        return what == 0 ? many : set;
                    }
                }
            }
        }
        return NONE;
    }

    public int place(int pin, int cell, int what) {
        if (!now.isPin(pin) || !now.isCell(cell) || !isIn(what, 0, 1)) {
            return BAD;
        }
        if (look(now.cells, pin) != NONE) {
            return NOT;
        }
        return bestCell(pin, cell, what, true);
    }

    public int nearest(int cell, int what) {
        if (!now.isCell(cell) || !isIn(what, 0, 1)) {
            return BAD;
        }
        int found = now.nearestHole(cell);
        return found == NONE || what == 0 ? found : now.far(cell, found);
    }

    public int bound(int pin) {
        if (!now.isPin(pin)) {
            return BAD;
        }
        int set = 1 << pin;
        for (int k = 1; k < PINS; k++) {
            set = now.spreads(set);
        }
        return set;
    }

    public int between(int pin, int other) {
        if (!areTwoPins(pin, other)) {
            return BAD;
        }
        int set = 1 << pin;
        for (int k = 1; k < PINS; k++) {
            set = now.spreads(set);
            if (has(set, other)) {
                return k;
            }
        }
        return NONE;
    }

    public int which(int what) {
        switch (what) {
            case 0: return now.aloneSet();
            case 1: return now.tautSet();
            default: return BAD;
        }
    }

    public int breaks(int pin, int cell, int n, int c, int what) {
        if (!now.isPin(pin) || !now.isCell(cell) || !isIn(n, 0, BREAK_HORIZON)) {
            return BAD;
        }
        if (!isIn(c, 0, CERTAIN) || !isIn(what, 0, 1)) {
            return BAD;
        }
        int holding = now.holdSet();
        int all = Integer.bitCount(holding);
        int above = 0;
        for (int set = 0; set <= holding; set++) {
            if ((set & ~holding) == 0) {
                int broken = Integer.bitCount(set);
                int weight = power(c, broken) * power(CERTAIN - c, all - broken);
                trial.becomesCut(now, set);
                trial.goesOnFor(weight == 0 ? 0 : n);
                if (look(trial.cells, pin) == cell) {
                    above += weight;
                }
            }
        }
        int below = power(CERTAIN, all);
        int common = commonDivisor(above, below);
        return (what == 0 ? above : below) / (common < 1 ? 1 : common);
    }

    public int image() {
        imageNow.becomes(now);
        imagePast.becomes(past);
        hasImage = true;
        return 1;
    }

    public int restore() {
        if (!hasImage) {
            return NONE;
        }
        now.becomes(imageNow);
        past.becomes(imagePast);
        return 1;
    }

    // ---- 3 sheets

    public int felt(int pin, int sheet, int lane, int i, int n, int what) {
        Sheet from = sheetOf(sheet);
        if (from == null || !now.isPin(pin) || !isLane(lane) || !isIn(n, 1, DAYS_FELT) || !isIn(what, 0, 1)) {
            return BAD;
        }
        int refusal = from.refusal(lane, i, n);
        if (refusal != WELL) {
            return refusal;
        }
        if (look(now.cells, pin) == NONE) {
            return NOT;
        }
        int set = 0;
        for (int v = 0; v < (what == 0 ? KINDS : COURSES); v++) {
            trial.becomes(now);
            lay(what == 0 ? trial.kinds : trial.courses, pin, v);
            if (isFelt(pin, from, i, n)) {
                set |= 1 << v;
            }
        }
        return set;
    }

    public int film(int pin, int n, int sheet, int lane, int i) {
        Sheet to = sheetOf(sheet);
        if (to == null || !now.isPin(pin) || !isIn(n, 1, DAYS_FILMED) || !isLane(lane)) {
            return BAD;
        }
        int refusal = to.refusal(lane, i, n);
        if (refusal != WELL) {
            return refusal;
        }
        trial.becomes(now);
        for (int k = 0; k < n; k++) {
            trial.goesOn();
            to.writes(i + k, look(trial.cells, pin));
        }
        return n;
    }

    public int sheet(int sheet, int lane, int n) {
        Sheet it = sheetOf(sheet);
        if (it == null || !isLane(lane) || n > MOST_ITEMS) {
            return BAD;
        }
        if (n < 0) {
            return SIZE;
        }
        it.begins(lane, n);
        return n;
    }

    public int drop(int sheet) {
        Sheet it = sheetOf(sheet);
        if (it == null) {
            return BAD;
        }
        if (it.isMissing) {
            return NULL;
        }
        it.isMissing = true;
        return it.length;
    }

    public int item(int sheet, int lane, int i, long v) {
        Sheet it = sheetOf(sheet);
        if (it == null || !isLane(lane)) {
            return BAD;
        }
        int refusal = it.refusal(lane, i, 1);
        if (refusal != WELL) {
            return refusal;
        }
        it.writes(i, v);
        return 1;
    }

    public int copy(int from, int i, int to, int j, int n) {
        Sheet source = sheetOf(from);
        Sheet target = sheetOf(to);
        if (source == null || target == null) {
            return BAD;
        }
        if (source.isMissing || target.isMissing) {
            return NULL;
        }
        if (source.lane != target.lane) {
            return CAST;
        }
        if (!source.hasItems(i, n) || !target.hasItems(j, n)) {
            return INDEX;
        }
        target.takes(j, source, i, n);
        return n;
    }

    // ---- what the face leans on

    private boolean areTwoPins(int pin, int other) {
        return now.isPin(pin) && now.isPin(other) && pin != other;
    }

    private Sheet sheetOf(int sheet) {
        return sheet >= 0 && sheet < sheets.length ? sheets[sheet] : null;
    }

    private int passes(int n, boolean isDusty) {
        if (!isIn(n, 1, DAYS_AT_ONCE)) {
            return BAD;
        }
        if (now.day > LAST_DAY - n) {
            return FULL;
        }
        for (int k = 0; k < n; k++) {
            past.keeps(now);
            if (isDusty) {
                now.gathersDust();
            }
            now.goesOn();
        }
        return now.holeCount();
    }

    // A later cell is only better if it is sooner, so each trial has fewer days than the best so far.
    private int bestCell(int pin, int cell, int what, boolean byPut) {
        int best = NONE;
        int within = HORIZON;
        for (int c = 0; c < now.cellCount() && within >= 0; c++) {
            if (byPut ? now.pinOn(c) == NONE : now.thingOn(c) == NONE) {
                trial.becomes(now);
                if (byPut) {
                    trial.sets(pin, c);
                } else {
                    trial.opens(c);
                }
                int n = trial.soonest(pin, cell, within);
                if (n != NONE) {
                    best = c;
                    within = n - 1;
                }
            }
        }
        return best == NONE || what == 0 ? best : within + 1;
    }

    private boolean isFelt(int pin, Sheet from, int i, int n) {
        for (int k = 0; k < n; k++) {
            trial.goesOn();
            if (look(trial.cells, pin) != from.itemAt(i + k)) {
                return false;
            }
        }
        return true;
    }

    private static boolean isLane(int lane) {
        return isIn(lane, 0, LANES - 1);
    }

    private static boolean isIn(int v, int least, int greatest) {
        return v >= least && v <= greatest;
    }

    private static boolean has(int set, int member) {
        return (set >> member & 1) != 0;
    }

    // All rows are looked at here, so that no index goes untested.
    private static int look(int[] row, int i) {
        return row != null && i >= 0 && i < row.length ? row[i] : 0;
    }

    private static void lay(int[] row, int i, int v) {
        if (row != null && i >= 0 && i < row.length) {
            row[i] = v;
        }
    }

    private static void layAll(int[] from, int[] to) {
        if (from != null && to != null) {
            System.arraycopy(from, 0, to, 0, Math.min(from.length, to.length));
        }
    }

    private static int power(int base, int exponent) {
        int product = 1;
        for (int k = 0; k < exponent; k++) {
            product *= base;
        }
        return product;
    }

    private static int commonDivisor(int a, int b) {
        // Two steps at least halve what is left, so 64 are enough for any int.
        for (int k = 0; k < 64 && b != 0; k++) {
            int rest = a % b;
            a = b;
            b = rest;
        }
        return a;
    }

    private static final class Cushion {
        private int rows = FIRST_SIDE, columns = FIRST_SIDE;
        private int pins, threads, day;
        private int draw = 1;
        private int cutSet;
        private long holeSet;
        private final int[] kinds = new int[PINS], cells = new int[PINS], courses = new int[PINS];
        private final int[] lesser = new int[THREADS], greater = new int[THREADS], lengths = new int[THREADS];

        private Cushion() {
            Arrays.fill(cells, NONE);
        }

        private void empties(int newRows, int newColumns) {
            rows = newRows;
            columns = newColumns;
            pins = 0;
            threads = 0;
            day = 0;
            cutSet = 0;
            holeSet = 0;
            Arrays.fill(cells, NONE);
        }

        private void becomes(Cushion other) {
            if (other == null) {
                return;
            }
            rows = other.rows;
            columns = other.columns;
            pins = other.pins;
            threads = other.threads;
            day = other.day;
            draw = other.draw;
            cutSet = other.cutSet;
            holeSet = other.holeSet;
            layAll(other.kinds, kinds);
            layAll(other.cells, cells);
            layAll(other.courses, courses);
            layAll(other.lesser, lesser);
            layAll(other.greater, greater);
            layAll(other.lengths, lengths);
        }

        private void becomesCut(Cushion other, int set) {
            becomes(other);
            cutSet |= set;
        }

        private int addPin(int kind, int cell, int course) {
            int pin = pins;
            lay(kinds, pin, kind);
            lay(cells, pin, cell);
            lay(courses, pin, course);
            pins++;
            return pin;
        }

        private int addThread(int pin, int other, int length) {
            int thread = threads;
            lay(lesser, thread, Math.min(pin, other));
            lay(greater, thread, Math.max(pin, other));
            lay(lengths, thread, length);
            threads++;
            return thread;
        }

        private boolean isPin(int pin) {
            return pin >= 0 && pin < pins;
        }

        private boolean isThread(int thread) {
            return thread >= 0 && thread < threads;
        }

        private boolean isCell(int cell) {
            return cell >= 0 && cell < rows * columns;
        }

        private int cellCount() {
            return rows * columns;
        }

        private int pinOn(int cell) {
            for (int p = 0; p < cells.length; p++) {
                if (cells[p] == cell) {
                    return p;
                }
            }
            return NONE;
        }

        private int thingOn(int cell) {
            return (holeSet >>> cell & 1L) != 0 ? A_HOLE : pinOn(cell);
        }

        private void opens(int cell) {
            holeSet |= 1L << cell;
        }

        private void sets(int pin, int cell) {
            lay(cells, pin, cell);
            holeSet &= ~(1L << cell);
        }

        private int holeCount() {
            return Long.bitCount(holeSet);
        }

        private int far(int cell, int other) {
            int width = columns < 1 ? 1 : columns;
            int down = cell / width - other / width;
            int right = cell % width - other % width;
            return (down < 0 ? -down : down) + (right < 0 ? -right : right);
        }

        private int nearestHole(int cell) {
            int best = NONE;
            int least = 0;
            long rest = holeSet;
            for (int c = 0; c < MOST_CELLS && rest != 0; c++) {
                if ((rest & 1L) != 0) {
                    int f = far(cell, c);
                    if (best == NONE || f < least) {
                        best = c;
                        least = f;
                    }
                }
                rest >>>= 1;
            }
            return best;
        }

        private boolean isCut(int thread) {
            return (cutSet >> thread & 1) != 0;
        }

        private boolean holds(int thread) {
            if (!isThread(thread) || isCut(thread)) {
                return false;
            }
            int one = look(cells, look(lesser, thread));
            int other = look(cells, look(greater, thread));
            return one != NONE && other != NONE && far(one, other) <= look(lengths, thread);
        }

        private int holdSet() {
            int set = 0;
            for (int t = 0; t < threads; t++) {
                if (holds(t)) {
                    set |= 1 << t;
                }
            }
            return set;
        }

        private int uncutSet() {
            return (1 << threads) - 1 & ~cutSet;
        }

        private int outSet() {
            int set = 0;
            for (int p = 0; p < pins; p++) {
                if (look(cells, p) == NONE) {
                    set |= 1 << p;
                }
            }
            return set;
        }

        private int tautSet() {
            int set = 0;
            for (int t = 0; t < threads; t++) {
                int one = look(cells, look(lesser, t));
                int other = look(cells, look(greater, t));
                if (holds(t) && far(one, other) == look(lengths, t)) {
                    set |= 1 << t;
                }
            }
            return set;
        }

        private int aloneSet() {
            int set = (1 << pins) - 1 & ~outSet();
            for (int t = 0; t < threads; t++) {
                if (holds(t)) {
                    set &= ~(1 << look(lesser, t) | 1 << look(greater, t));
                }
            }
            return set;
        }

        // One thread further, from the old set alone: between() counts these steps.
        private int spreads(int set) {
            int wider = set;
            for (int t = 0; t < threads; t++) {
                int one = look(lesser, t);
                int other = look(greater, t);
                if ((has(set, one) || has(set, other)) && holds(t)) {
                    wider |= 1 << one | 1 << other;
                }
            }
            return wider;
        }

        private int waysOf(int pin) {
            int set = 0;
            for (int v = 0; v < COURSES; v++) {
                if (mayGo(pin, beside(look(cells, pin), v))) {
                    set |= 1 << v;
                }
            }
            return set;
        }

        private int beside(int cell, int course) {
            if (!isCell(cell) || columns < 1) {
                return NONE;
            }
            int column = cell % columns;
            switch (course) {
                case UP: return cell < columns ? NONE : cell - columns;
                case DOWN: return isCell(cell + columns) ? cell + columns : NONE;
                case LEFT: return column == 0 ? NONE : cell - 1;
                case RIGHT: return column == columns - 1 ? NONE : cell + 1;
                default: return NONE;
            }
        }

        private int nearer(int cell, int goal) {
            if (!isCell(cell) || !isCell(goal) || columns < 1) {
                return NONE;
            }
            int down = goal / columns - cell / columns;
            if (down != 0) {
                return beside(cell, down > 0 ? DOWN : UP);
            }
            return beside(cell, goal > cell ? RIGHT : LEFT);
        }

        private boolean mayGo(int pin, int cell) {
            if (!isCell(cell) || pinOn(cell) != NONE) {
                return false;
            }
            for (int t = 0; t < threads; t++) {
                int one = look(lesser, t);
                int other = look(greater, t);
                if ((one == pin || other == pin) && holds(t)) {
                    int end = look(cells, one == pin ? other : one);
                    if (far(cell, end) > look(lengths, t)) {
                        return false;
                    }
                }
            }
            return true;
        }

        private void goesOn() {
            for (int p = 0; p < pins; p++) {
                if (look(cells, p) != NONE) {
                    switch (look(kinds, p)) {
                        case SHIP: sails(p, look(courses, p)); break;
                        case NEEDLE: sails(p, UP); break;
                        case RUSTY: if ((day & 1) == 0) { seeks(p); } break;
                        case MISSION: seeks(p); break;
                        default: break;
                    }
                }
            }
            day++;
        }

        private void goesOnFor(int n) {
            for (int k = 0; k < n; k++) {
                goesOn();
            }
        }

        private void sails(int pin, int course) {
            int to = beside(look(cells, pin), course);
            if (mayGo(pin, to)) {
                sets(pin, to);
                lay(courses, pin, course);
            } else {
                // The other way round of 0 is 1, of 2 is 3.
                lay(courses, pin, course ^ 1);
            }
        }

        private void seeks(int pin) {
            int from = look(cells, pin);
            int to = nearer(from, nearestHole(from));
            if (mayGo(pin, to)) {
                sets(pin, to);
            }
        }

        private void gathersDust() {
            draw = draw * 1103515245 + 12345 & LOWEST_31_BITS;
            int many = cellCount();
            int cell = draw / 65536 % (many < 1 ? 1 : many);
            if (pinOn(cell) == NONE && draw / 128 % 3 == 0) {
                opens(cell);
            }
        }

        private int soonest(int pin, int cell, int within) {
            if (look(cells, pin) == NONE) {
                return NONE;
            }
            for (int n = 0; n <= within; n++) {
                if (look(cells, pin) == cell) {
                    return n;
                }
                goesOn();
            }
            return NONE;
        }

        private int soonestBeside(int pin, int other, int within) {
            if (look(cells, pin) == NONE || look(cells, other) == NONE) {
                return NONE;
            }
            for (int n = 0; n <= within; n++) {
                if (far(look(cells, pin), look(cells, other)) == 1) {
                    return n;
                }
                goesOn();
            }
            return NONE;
        }
    }

    // What may be undone: a ring, in which the oldest moment gives way to the newest.
    private static final class Past {
        private final Cushion[] moments = new Cushion[UNDOABLE];
        private int first;
        private int known;

        private Past() {
            for (int k = 0; k < moments.length; k++) {
                moments[k] = new Cushion();
            }
        }

        private Cushion moment(int k) {
            int slot = (first + k) % UNDOABLE;
            return slot >= 0 && slot < moments.length ? moments[slot] : null;
        }

        private void forgets() {
            known = 0;
        }

        private void keeps(Cushion it) {
            if (known == UNDOABLE) {
                first = (first + 1) % UNDOABLE;
                known--;
            }
            Cushion free = moment(known);
            if (free != null) {
                free.becomes(it);
                known++;
            }
        }

        private boolean givesBack(Cushion to) {
            if (known == 0) {
                return false;
            }
            known--;
            to.becomes(moment(known));
            return true;
        }

        private void becomes(Past other) {
            if (other == null) {
                return;
            }
            first = 0;
            known = other.known;
            for (int k = 0; k < known; k++) {
                Cushion mine = moment(k);
                if (mine != null) {
                    mine.becomes(other.moment(k));
                }
            }
        }
    }

    // Where a reading fails, place is left on the letter at fault.
    private static final class Tape {
        private final int[] letters = new int[TAPE_LENGTH];
        private int typed;
        private int place;

        private boolean takesOn(int letter) {
            if (typed >= TAPE_LENGTH) {
                return false;
            }
            lay(letters, typed, letter);
            typed++;
            return true;
        }

        private boolean tells(Cushion to) {
            place = 0;
            int rows = digit(LEAST_SIDE, GREATEST_SIDE);
            if (rows == NONE || !goesPast('x')) {
                return false;
            }
            int columns = digit(LEAST_SIDE, GREATEST_SIDE);
            if (columns == NONE) {
                return false;
            }
            to.empties(rows, columns);
            for (int k = 0; k < TAPE_LENGTH && next() != END; k++) {
                if (!goesPast(';') || !tellsThing(to)) {
                    return false;
                }
            }
            return true;
        }

        private boolean tellsThing(Cushion to) {
            switch (next()) {
                case 'p': return tellsPin(to, 0);
                case 's': return tellsPin(to, SHIP);
                case 'r': return tellsPin(to, RUSTY);
                case 'n': return tellsPin(to, NEEDLE);
                case 'm': return tellsPin(to, MISSION);
                case 'o': return tellsHole(to);
                case 't': return tellsThread(to);
                default: return false;
            }
        }

        private boolean tellsPin(Cushion to, int kind) {
            if (to.pins >= PINS) {
                return false;
            }
            place++;
            int cell = freeCell(to);
            if (cell == NONE) {
                return false;
            }
            int course = courseOf(next());
            if (course != NONE) {
                place++;
            }
            to.addPin(kind, cell, course == NONE ? RIGHT : course);
            return true;
        }

        private boolean tellsHole(Cushion to) {
            place++;
            int cell = freeCell(to);
            if (cell == NONE) {
                return false;
            }
            to.opens(cell);
            return true;
        }

        private boolean tellsThread(Cushion to) {
            if (to.threads >= THREADS) {
                return false;
            }
            place++;
            int pin = digit(0, to.pins - 1);
            if (pin == NONE) {
                return false;
            }
            int other = digit(0, to.pins - 1);
            if (other == pin) {
                place--;
                return false;
            }
            if (other == NONE || !goesPast('=')) {
                return false;
            }
            int length = number(1, LONGEST);
            if (length == NONE) {
                return false;
            }
            to.addThread(pin, other, length);
            return true;
        }

        private int freeCell(Cushion on) {
            int row = digit(0, on.rows - 1);
            if (row == NONE) {
                return NONE;
            }
            int column = digit(0, on.columns - 1);
            if (column == NONE) {
                return NONE;
            }
            int cell = row * on.columns + column;
            if (on.thingOn(cell) != NONE) {
                place--;
                return NONE;
            }
            return cell;
        }

        private static int courseOf(int letter) {
            switch (letter) {
                case 'u': return UP;
                case 'd': return DOWN;
                case 'l': return LEFT;
                case 'r': return RIGHT;
                default: return NONE;
            }
        }

        private int letterHere() {
            return place < typed ? look(letters, place) : END;
        }

        private int next() {
            for (; place < typed; place++) {
                int letter = look(letters, place);
                if (letter != ' ') {
                    return letter;
                }
            }
            return END;
        }

        private boolean goesPast(int letter) {
            if (next() != letter) {
                return false;
            }
            place++;
            return true;
        }

        private int digit(int least, int greatest) {
            int v = next() - '0';
            if (!isIn(v, least, greatest)) {
                return NONE;
            }
            place++;
            return v;
        }

        private int number(int least, int greatest) {
            if (!isIn(next(), '0', '9')) {
                return NONE;
            }
            int start = place;
            int v = 0;
            for (int k = 0; k < 2 && isIn(letterHere(), '0', '9'); k++) {
                v = v * 10 + letterHere() - '0';
                place++;
            }
            if (!isIn(v, least, greatest)) {
                place = start;
                return NONE;
            }
            return v;
        }
    }

    // Every lane is held in longs, narrowed as it is written, so that one row serves all four.
    private static final class Sheet {
        private final long[] row = new long[MOST_ITEMS];
        private boolean isMissing = true;
        private int lane;
        private int length;

        private void begins(int newLane, int newLength) {
            isMissing = false;
            lane = newLane;
            length = newLength;
            Arrays.fill(row, 0L);
        }

        private int refusal(int asLane, int i, int n) {
            if (isMissing) {
                return NULL;
            }
            if (asLane != lane) {
                return CAST;
            }
            return hasItems(i, n) ? WELL : INDEX;
        }

        private boolean hasItems(int i, int n) {
            return n >= 0 && i >= 0 && i <= length - n;
        }

        private long itemAt(int i) {
            return i >= 0 && i < row.length ? row[i] : 0L;
        }

        private void writes(int i, long v) {
            if (i >= 0 && i < row.length) {
                row[i] = narrowed(v);
            }
        }

        private long narrowed(long v) {
            switch (lane) {
                case 0: return (byte) v;
                case 1: return (short) v;
                case 2: return (int) v;
                default: return v;
            }
        }

        private void takes(int j, Sheet from, int i, int n) {
            if (from != null && from.hasItems(i, n) && hasItems(j, n)) {
                System.arraycopy(from.row, i, row, j, n);
            }
        }
    }
}
