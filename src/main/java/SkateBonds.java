import java.util.Arrays;

/**
 * Contracts that are skated on the ice of a canal, as ../shared/DOC.md tells them.
 *
 * <p>Every row that a call needs is made with the object and used again, so that no call makes an object.
 */
public final class SkateBonds {
    public static final int UNKNOWN = -1, OUTSIDE = -2, STATE = -3, FULL = -4, NONE = -9;
    public static final long LOST = Long.MIN_VALUE;

    /** The answers of a call that comes to a FAULT: -10 less its number. */
    private static final int NULL = -11, CAST = -12, INDEX = -13, SIZE = -14;
    /** No refusal and no FAULT. */
    private static final int TAKEN = 0;
    /** A FIRST FAULT and a FIRST WRONG are told as this less their number. */
    private static final int WRONG = -100;

    private static final int SKATER = 0, CLERK = 1, BANKER = 2;
    private static final int BYTES = 0, SHORTS = 1, INTS = 2;
    private static final int UP = 0, RIGHT = 1, DOWN = 2, LEFT = 3;

    private static final int MOST_HIGH = 4, MOST_WIDE = 5, MOST_CELLS = MOST_HIGH * MOST_WIDE;
    private static final int LEAST_SKATERS = 2, MOST_SKATERS = 4;
    private static final int HIGHEST = 9;
    private static final int MOST_STROKES = 40;
    private static final int MOST_READINGS = 8;
    private static final int MOST_BREAKING = 8;
    private static final int SHEETS = 4, MOST_NUMBERS = 60;

    private final Sheet[] sheets = new Sheet[SHEETS];
    private final Text text = new Text();
    private final Deed trial = new Deed();
    private final Readings readings = new Readings();
    private Ice ice = new Ice();
    private Crew crew = new Crew();
    /** A TEXT is read into these; only a TEXT that is taken puts them in the place of ice and crew. */
    private Ice draftIce = new Ice();
    private Crew draftCrew = new Crew();
    private int latestFault = 0;
    private int traced = 0;

    public SkateBonds() {
        for (int k = 0; k < SHEETS; k++) {
            sheets[k] = new Sheet();
        }
    }

    // ---- 1 the canal

    public int canal(int sheet, int lane, int i, int n) {
        return keepFault(takeText(sheet, lane, i, n));
    }

    public int ofSkater(int a, int what) {
        if (!crew.has(a)) {
            return UNKNOWN;
        }
        switch (what) {
            case 0: return crew.kinds[a];
            case 1: return crew.weights[a];
            case 2: return crew.load(a);
            case 3: return ice.bearing(crew.load(a), 0);
            default: return OUTSIDE;
        }
    }

    public int strength(int c) {
        return ice.has(c) ? ice.strengths[c] : UNKNOWN;
    }

    public int freeze(int c, int v) {
        if (!ice.has(c)) {
            return UNKNOWN;
        }
        if (!isWithin(v, 0, HIGHEST)) {
            return OUTSIDE;
        }
        int was = ice.strengths[c];
        ice.strengths[c] = v;
        return was;
    }

    public int frost(int v) {
        int refusal = refusalOfWeather(v);
        if (refusal != TAKEN) {
            return refusal;
        }
        int was = ice.frost;
        ice.frost = v;
        return was;
    }

    // ---- 2 deeds, nights

    public int deed(int a, int b, int c, int sheet, int lane, int i, int n, int what) {
        if (!isWithin(what, 0, 4)) {
            return keepFault(isDeedKnown(a, b, c, sheet) ? OUTSIDE : UNKNOWN);
        }
        int refusal = tryDeed(a, b, c, sheet, lane, i, n);
        return keepFault(refusal == TAKEN ? ofTrial(n, what) : refusal);
    }

    public int write(int a, int b, int c, int sheet, int lane, int i, int n) {
        int refusal = tryDeed(a, b, c, sheet, lane, i, n);
        if (refusal != TAKEN) {
            return keepFault(refusal);
        }
        if (trial.firstWrong != NONE) {
            return keepFault(WRONG - trial.firstWrong);
        }
        System.arraycopy(trial.strengths, 0, ice.strengths, 0, MOST_CELLS);
        return keepFault(n);
    }

    public int nights(int n) {
        int refusal = refusalOfWeather(n);
        if (refusal != TAKEN) {
            return refusal;
        }
        ice.strengthen(n * ice.frost);
        return ice.count(HIGHEST);
    }

    public int thaw(int n) {
        int refusal = refusalOfWeather(n);
        if (refusal != TAKEN) {
            return refusal;
        }
        ice.strengthen(-n);
        return ice.count(0);
    }

    // ---- 3 bonds

    public int bond(int a, int b, int from, int to, int k) {
        if (!isBondKnown(a, b, from, to)) {
            return UNKNOWN;
        }
        if (!isWithin(k, -1, MOST_STROKES - 1)) {
            return OUTSIDE;
        }
        int bearsA = ice.bearing(crew.load(a), 0);
        int bearsB = ice.bearing(crew.load(b), 0);
        int strokes = ice.shortest(from, to, bearsA, bearsB);
        if (k == -1) {
            return strokes;
        }
        return k < strokes ? ice.strokeOfBond(k, from, to, bearsA, bearsB) : NONE;
    }

    public int holds(int a, int b, int from, int to) {
        if (!isBondKnown(a, b, from, to)) {
            return UNKNOWN;
        }
        for (int days = HIGHEST; days >= 0; days--) {
            int bearsA = ice.bearing(crew.load(a), days);
            int bearsB = ice.bearing(crew.load(b), days);
            if (ice.shortest(from, to, bearsA, bearsB) != NONE) {
                return days;
            }
        }
        return NONE;
    }

    public int alone(int a, int from) {
        if (!crew.has(a) || !ice.has(from)) {
            return UNKNOWN;
        }
        return ice.reach(from, ice.bearing(crew.load(a), 0));
    }

    public int neck(int a, int b, int from, int to) {
        if (!isBondKnown(a, b, from, to)) {
            return UNKNOWN;
        }
        if (!isBond(a, b, from, to, 0)) {
            return NONE;
        }
        for (int c = 0; c < ice.cells(); c++) {
            if (c != from && c != to && !isBond(a, b, from, to, 1 << c)) {
                return c;
            }
        }
        return NONE;
    }

    // ---- 4 what bore whom

    public int reading(int a, int c, boolean bore) {
        if (!crew.has(a) || !ice.has(c)) {
            return UNKNOWN;
        }
        return readings.add(a, c, bore);
    }

    public int back(int k) {
        if (!isWithin(k, 0, readings.count)) {
            return OUTSIDE;
        }
        readings.count -= k;
        return readings.count;
    }

    public int weights(int a) {
        if (!crew.has(a)) {
            return UNKNOWN;
        }
        int own = crew.weights[a];
        int set = 0;
        for (int weight = 1; weight <= HIGHEST; weight++) {
            crew.weights[a] = weight;
            set |= readings.areSo(ice, crew) ? 1 << weight : 0;
        }
        crew.weights[a] = own;
        return set;
    }

    public int kinds(int a) {
        if (!crew.has(a)) {
            return UNKNOWN;
        }
        int own = crew.kinds[a];
        int set = 0;
        for (int kind = SKATER; kind <= BANKER; kind++) {
            crew.kinds[a] = kind;
            set |= readings.areSo(ice, crew) ? 1 << kind : 0;
        }
        crew.kinds[a] = own;
        return set;
    }

    public int strengths(int c) {
        if (!ice.has(c)) {
            return UNKNOWN;
        }
        int own = ice.strengths[c];
        int set = 0;
        for (int strong = 0; strong <= HIGHEST; strong++) {
            ice.strengths[c] = strong;
            set |= readings.areSo(ice, crew) ? 1 << strong : 0;
        }
        ice.strengths[c] = own;
        return set;
    }

    public long odds(int a, int b, int from, int to, int set, int which) {
        if (!isBondKnown(a, b, from, to)) {
            return LOST;
        }
        boolean isSet = (set & ~ice.all()) == 0 && Integer.bitCount(set) <= MOST_BREAKING;
        if (!isSet || !isWithin(which, 0, 1)) {
            return LOST;
        }
        int upper = bondsAsBreaking(a, b, from, to, set);
        int lower = 1 << Integer.bitCount(set);
        // The lower number is a power of two, so that halves alone bring both to least terms.
        for (int half = 0; half < MOST_BREAKING && lower > 1 && upper % 2 == 0; half++) {
            upper /= 2;
            lower /= 2;
        }
        return which == 0 ? upper : lower;
    }

    // ---- 5 sheets, parts

    public int sheet(int k, int lane, int n) {
        return keepFault(newRow(k, lane, n));
    }

    public int lose(int k) {
        Sheet held = sheetAt(k);
        if (held == null) {
            return UNKNOWN;
        }
        int had = held.isNothing() ? 0 : 1;
        held.clear();
        return had;
    }

    public int put(int k, int i, int v) {
        return keepFault(putNumber(k, i, v));
    }

    public long cell(int k, int i, int lane) {
        Sheet row = sheetAt(k);
        int refusal = keepFault(refusalOfPart(row, lane, i, 1));
        return row == null || refusal != TAKEN ? LOST : row.numbers[i];
    }

    public int copy(int k, int i, int other, int j, int n) {
        return keepFault(copyNumbers(k, i, other, j, n));
    }

    public int tell(int a) {
        if (!crew.has(a)) {
            return UNKNOWN;
        }
        int weight = crew.weights[a];
        switch (crew.kinds[a]) {
            case BANKER: return bankerGives(weight);
            case CLERK: return clerkGives(weight);
            default: return skaterGives(weight);
        }
    }

    public int signed(int a) {
        if (!crew.has(a)) {
            return UNKNOWN;
        }
        if (crew.kinds[a] == BANKER) {
            leave(5);
            return 60;
        }
        leave(4);
        return a;
    }

    public int as(int a, int kind) {
        return keepFault(takeAs(a, kind));
    }

    public int trace() {
        return traced;
    }

    public int fault() {
        return latestFault;
    }

    public int many(int what) {
        switch (what) {
            case 0: return crew.count;
            case 1: return ice.cells();
            case 2: return ice.wide;
            case 3: return ice.frost;
            case 4: return readings.count;
            default: return OUTSIDE;
        }
    }

    // ---- what several calls share

    private static boolean isWithin(int v, int least, int most) {
        return v >= least && v <= most;
    }

    private static boolean isIn(int set, int k) {
        return ((set >> k) & 1) == 1;
    }

    /** Passes on the answer of a call that names FAULTS; no other answer of such a call is a FAULT's. */
    private int keepFault(int answer) {
        latestFault = isWithin(answer, SIZE, NULL) ? -10 - answer : 0;
        return answer;
    }

    private Sheet sheetAt(int k) {
        return isWithin(k, 0, SHEETS - 1) ? sheets[k] : null;
    }

    /** What forbids to take what a SHEET has as a row of a LANE; nothing is no CAST, so NULL may stand first. */
    private static int refusalOfLane(Sheet row, int lane) {
        if (row == null) {
            return UNKNOWN;
        }
        if (!isWithin(lane, BYTES, INTS)) {
            return OUTSIDE;
        }
        if (row.isNothing()) {
            return NULL;
        }
        return row.lane == lane ? TAKEN : CAST;
    }

    /** What forbids to take n cells from i on as a row of a LANE. */
    private static int refusalOfPart(Sheet row, int lane, int i, int n) {
        int refusal = refusalOfLane(row, lane);
        if (row == null || refusal != TAKEN) {
            return refusal;
        }
        return row.has(i, n) ? TAKEN : INDEX;
    }

    /** Of frost, nights and thaw, each of a number 0 .. 9. */
    private int refusalOfWeather(int v) {
        if (!isWithin(v, 0, HIGHEST)) {
            return OUTSIDE;
        }
        return ice.cells() == 0 ? STATE : TAKEN;
    }

    private boolean isPair(int a, int b) {
        return crew.has(a) && crew.has(b) && a != b;
    }

    // ---- the canal

    private int takeText(int sheet, int lane, int i, int n) {
        Sheet row = sheetAt(sheet);
        int refusal = refusalOfLane(row, lane);
        if (row == null || refusal != TAKEN) {
            return refusal;
        }
        if (n < 0) {
            return SIZE;
        }
        if (!row.has(i, n)) {
            return INDEX;
        }
        text.begin(row, i, n);
        draftIce.take(text);
        draftCrew.take(text);
        text.end();
        if (text.isWrong) {
            return WRONG - text.place;
        }
        changeToDraft();
        return crew.count;
    }

    private void changeToDraft() {
        Ice oldIce = ice;
        Crew oldCrew = crew;
        ice = draftIce;
        crew = draftCrew;
        draftIce = oldIce;
        draftCrew = oldCrew;
        readings.count = 0;
    }

    // ---- deeds

    private boolean isDeedKnown(int a, int b, int c, int sheet) {
        return isPair(a, b) && ice.has(c) && sheetAt(sheet) != null;
    }

    /** Makes a DEED on a copy of the ice; the trial tells of it when this is TAKEN. */
    private int tryDeed(int a, int b, int c, int sheet, int lane, int i, int n) {
        Sheet row = sheetAt(sheet);
        if (row == null || !isDeedKnown(a, b, c, sheet)) {
            return UNKNOWN;
        }
        if (!isWithin(n, 0, MOST_STROKES)) {
            return OUTSIDE;
        }
        int refusal = refusalOfPart(row, lane, i, n);
        if (refusal != TAKEN) {
            return refusal;
        }
        for (int t = 0; t < n; t++) {
            if (!isWithin(row.numbers[i + t], UP, LEFT)) {
                return OUTSIDE;
            }
        }
        trial.begin(ice, c);
        for (int t = 0; t < n && trial.firstWrong == NONE; t++) {
            trial.stroke(ice, t, row.numbers[i + t], crew.load(t % 2 == 0 ? a : b));
        }
        return TAKEN;
    }

    private int ofTrial(int n, int what) {
        if (what == 1) {
            return trial.firstWrong;
        }
        if (trial.firstWrong != NONE) {
            return WRONG - trial.firstWrong;
        }
        switch (what) {
            case 0: return trial.at;
            case 2: return trial.cut;
            case 3: return trial.strengths[trial.at];
            default: return (n + 1) / 2;
        }
    }

    // ---- bonds

    private boolean isBondKnown(int a, int b, int from, int to) {
        return isPair(a, b) && ice.has(from) && ice.has(to);
    }

    /** Whether there is a BOND if a set of CELLS BEARS nobody. */
    private boolean isBond(int a, int b, int from, int to, int broken) {
        int bearsA = ice.bearing(crew.load(a), 0) & ~broken;
        int bearsB = ice.bearing(crew.load(b), 0) & ~broken;
        return ice.shortest(from, to, bearsA, bearsB) != NONE;
    }

    /** By how many of all sets of breaking CELLS there is a BOND. */
    private int bondsAsBreaking(int a, int b, int from, int to, int set) {
        int bonds = 0;
        int broken = 0;
        for (int k = 0; k < (1 << Integer.bitCount(set)); k++) {
            bonds += isBond(a, b, from, to, broken) ? 1 : 0;
            // Less the set, and cut to it, is the next greater set of its numbers.
            broken = (broken - set) & set;
        }
        return bonds;
    }

    // ---- sheets

    private int newRow(int k, int lane, int n) {
        Sheet row = sheetAt(k);
        if (row == null) {
            return UNKNOWN;
        }
        if (!isWithin(lane, BYTES, INTS) || n > MOST_NUMBERS) {
            return OUTSIDE;
        }
        if (n < 0) {
            return SIZE;
        }
        row.begin(lane, n);
        return 1;
    }

    private int putNumber(int k, int i, int v) {
        Sheet row = sheetAt(k);
        if (row == null) {
            return UNKNOWN;
        }
        if (row.isNothing()) {
            return NULL;
        }
        if (!row.has(i, 1)) {
            return INDEX;
        }
        row.set(i, v);
        return 1;
    }

    private int copyNumbers(int k, int i, int other, int j, int n) {
        Sheet source = sheetAt(k);
        Sheet target = sheetAt(other);
        if (source == null || target == null) {
            return UNKNOWN;
        }
        if (source.isNothing() || target.isNothing()) {
            return NULL;
        }
        if (source.lane != target.lane) {
            return CAST;
        }
        if (!source.has(i, n) || !target.has(j, n)) {
            return INDEX;
        }
        System.arraycopy(source.numbers, i, target.numbers, j, n);
        return n;
    }

    // ---- telling

    private void leave(int body) {
        traced = 31 * traced + body;
    }

    private int skaterGives(int weight) {
        leave(1);
        return weight;
    }

    private int clerkGives(int weight) {
        leave(2);
        return skaterGives(weight) + 100;
    }

    private int bankerGives(int weight) {
        leave(3);
        int asClerk = clerkGives(weight);
        return asClerk + skaterGives(weight);
    }

    private int takeAs(int a, int kind) {
        if (!crew.has(a)) {
            return UNKNOWN;
        }
        if (!isWithin(kind, SKATER, BANKER)) {
            return OUTSIDE;
        }
        return crew.kinds[a] < kind ? CAST : 1;
    }

    /** A SHEET: nothing, or a row of numbers of a LANE. */
    private static final class Sheet {
        private static final int NO_LANE = -1;

        private final int[] numbers = new int[MOST_NUMBERS];
        private int lane = NO_LANE;
        private int length = 0;

        private void begin(int newLane, int newLength) {
            lane = newLane;
            length = newLength;
            Arrays.fill(numbers, 0);
        }

        private void clear() {
            lane = NO_LANE;
            length = 0;
        }

        private boolean isNothing() {
            return lane == NO_LANE;
        }

        /** Whether n cells from i on are there; i may stand behind the last one if n is 0. */
        private boolean has(int i, int n) {
            return isWithin(i, 0, length) && isWithin(n, 0, length - i);
        }

        private void set(int i, int v) {
            switch (lane) {
                case BYTES: numbers[i] = (byte) v; break;
                case SHORTS: numbers[i] = (short) v; break;
                default: numbers[i] = v; break;
            }
        }
    }

    /** Goes over the codes of a TEXT and stands still at the FIRST FAULT. */
    private static final class Text {
        private final int[] codes = new int[MOST_NUMBERS];
        private int length = 0;
        private int place = 0;
        private boolean isWrong = false;

        private void begin(Sheet row, int i, int n) {
            System.arraycopy(row.numbers, i, codes, 0, n);
            length = n;
            place = 0;
            isWrong = false;
        }

        private boolean goesOn() {
            return !isWrong && place < length;
        }

        /** The code that is next less the least one; 0 behind a FAULT, so that what is read stays in bounds. */
        private int take(int least, int most) {
            if (!goesOn() || !isWithin(codes[place], least, most)) {
                isWrong = true;
                return 0;
            }
            place++;
            return codes[place - 1] - least;
        }

        private int digit(int least, int most) {
            return least + take('0' + least, '0' + most);
        }

        private void sign(char code) {
            take(code, code);
        }

        private int kind() {
            int code = goesOn() ? codes[place] : 0;
            if (code == 'k') {
                sign('k');
                return CLERK;
            }
            if (code == 'b') {
                sign('b');
                return BANKER;
            }
            sign('s');
            return SKATER;
        }

        private void end() {
            isWrong = isWrong || place < length;
        }
    }

    /** The SKATERS. */
    private static final class Crew {
        private final int[] kinds = new int[MOST_SKATERS];
        private final int[] weights = new int[MOST_SKATERS];
        private int count = 0;

        private void take(Text text) {
            count = 0;
            for (int a = 0; a < MOST_SKATERS && (a < LEAST_SKATERS || text.goesOn()); a++) {
                text.sign(',');
                kinds[a] = text.kind();
                weights[a] = text.digit(1, HIGHEST);
                count = a + 1;
            }
        }

        private boolean has(int a) {
            return isWithin(a, 0, count - 1);
        }

        private int load(int a) {
            switch (kinds[a]) {
                case BANKER: return 2 * (weights[a] + 1);
                case CLERK: return weights[a] + 1;
                default: return weights[a];
            }
        }
    }

    /** The CELLS, how they lie, and how one comes over them. */
    private static final class Ice {
        private final int[] strengths = new int[MOST_CELLS];
        private int high = 0;
        private int wide = 0;
        private int frost = 0;
        private int firstColumn = 0;
        private int lastColumn = 0;

        private void take(Text text) {
            text.sign('c');
            high = text.digit(1, MOST_HIGH);
            wide = text.digit(2, MOST_WIDE);
            frost = text.digit(0, HIGHEST);
            firstColumn = 0;
            for (int row = 0; row < high; row++) {
                firstColumn |= 1 << (row * wide);
                text.sign(';');
                for (int column = 0; column < wide; column++) {
                    strengths[row * wide + column] = text.digit(0, HIGHEST);
                }
            }
            lastColumn = firstColumn << (wide - 1);
        }

        private int cells() {
            return high * wide;
        }

        private int all() {
            return (1 << cells()) - 1;
        }

        private boolean has(int c) {
            return isWithin(c, 0, cells() - 1);
        }

        private void strengthen(int more) {
            for (int c = 0; c < cells(); c++) {
                strengths[c] = Math.max(0, Math.min(HIGHEST, strengths[c] + more));
            }
        }

        private int count(int strong) {
            int found = 0;
            for (int c = 0; c < cells(); c++) {
                found += strengths[c] == strong ? 1 : 0;
            }
            return found;
        }

        /** The CELLS that BEAR a LOAD behind days of THAW; no LOAD is 0, so that a STRENGTH below 0 bears none, too. */
        private int bearing(int load, int days) {
            int set = 0;
            for (int c = 0; c < cells(); c++) {
                set |= load <= strengths[c] - days ? 1 << c : 0;
            }
            return set;
        }

        /** The CELL to which a STROKE leads; NONE: off the ice. */
        private int led(int c, int stroke) {
            switch (stroke) {
                case UP: return c >= wide ? c - wide : NONE;
                case RIGHT: return isIn(lastColumn, c) ? NONE : c + 1;
                case DOWN: return c + wide < cells() ? c + wide : NONE;
                case LEFT: return isIn(firstColumn, c) ? NONE : c - 1;
                default: return NONE;
            }
        }

        /** The CELLS to which a STROKE leads from one of a set. */
        private int nextTo(int set) {
            int across = ((set & ~lastColumn) << 1) | ((set & ~firstColumn) >> 1);
            int along = (set << wide) | (set >> wide);
            return (across | along) & all();
        }

        private int reach(int from, int bears) {
            int set = 1 << from;
            for (int strokes = 1; strokes < MOST_CELLS; strokes++) {
                set |= nextTo(set) & bears;
            }
            return set;
        }

        /** How many STROKES a BOND has; NONE: there is none. */
        private int shortest(int from, int to, int bearsFirst, int bearsSecond) {
            int there = 1 << from;
            // A STROKE leads from black to white or back, as on a chessboard: a CELL is always come to in the
            // same one's turn, so that one set tells for both where one has been.
            int seen = there;
            for (int strokes = 0; strokes < MOST_CELLS && there != 0; strokes++) {
                if (isIn(there, to)) {
                    return strokes;
                }
                there = nextTo(there) & (strokes % 2 == 0 ? bearsFirst : bearsSecond) & ~seen;
                seen |= there;
            }
            return NONE;
        }

        /** STROKE k of a BOND, which has more than k. */
        private int strokeOfBond(int k, int from, int to, int bearsFirst, int bearsSecond) {
            int at = from;
            int stroke = NONE;
            for (int t = 0; t <= k && at != NONE; t++) {
                boolean isFirsts = t % 2 == 0;
                stroke = beginOfBond(at, to, isFirsts ? bearsFirst : bearsSecond, isFirsts ? bearsSecond : bearsFirst);
                at = led(at, stroke);
            }
            return stroke;
        }

        /** The least STROKE with which a shortest row begins. */
        private int beginOfBond(int from, int to, int bearsFirst, int bearsSecond) {
            int strokes = shortest(from, to, bearsFirst, bearsSecond);
            for (int stroke = UP; stroke <= LEFT; stroke++) {
                int next = led(from, stroke);
                if (next != NONE && isIn(bearsFirst, next)
                        && shortest(next, to, bearsSecond, bearsFirst) == strokes - 1) {
                    return stroke;
                }
            }
            return NONE;
        }
    }

    /** A DEED on a copy of the ice. */
    private static final class Deed {
        private final int[] strengths = new int[MOST_CELLS];
        private int at = 0;
        private int cut = 0;
        private int firstWrong = NONE;

        private void begin(Ice ice, int from) {
            System.arraycopy(ice.strengths, 0, strengths, 0, MOST_CELLS);
            at = from;
            cut = 0;
            firstWrong = NONE;
        }

        private void stroke(Ice ice, int number, int stroke, int load) {
            int next = ice.led(at, stroke);
            if (next == NONE || load > strengths[next]) {
                firstWrong = number;
                return;
            }
            at = next;
            strengths[next]--;
            cut |= 1 << next;
        }
    }

    /** The READINGS; each tells of a CELL as strong as it is when they are asked. */
    private static final class Readings {
        private final int[] skaters = new int[MOST_READINGS];
        private final int[] cells = new int[MOST_READINGS];
        private final boolean[] bore = new boolean[MOST_READINGS];
        private int count = 0;

        private int add(int a, int c, boolean didBear) {
            if (count >= MOST_READINGS) {
                return FULL;
            }
            skaters[count] = a;
            cells[count] = c;
            bore[count] = didBear;
            count++;
            return count - 1;
        }

        private boolean areSo(Ice ice, Crew crew) {
            for (int k = 0; k < count; k++) {
                boolean bears = crew.load(skaters[k]) <= ice.strengths[cells[k]];
                if (bears != bore[k]) {
                    return false;
                }
            }
            return true;
        }
    }
}
