/** All promises: long runs of calls, made from fixed seeds, against PlainBonds. */
public final class ModelTest {
    private static final int RUNS = 600;
    private static final int CALLS = 512;

    private final SkateBonds x = new SkateBonds();
    private final PlainBonds y = new PlainBonds();
    private final StringBuilder told = new StringBuilder();
    private long seed;
    private int left = CALLS;
    private boolean agrees = true;

    private ModelTest(int run) {
        seed = run * 7919L + 17;
    }

    public static void main(String[] args) {
        Due.part("promises 1 to 31");
        for (int run = 0; run < RUNS && Due.wrong() == 0; run++) {
            ModelTest test = new ModelTest(run);
            test.go(run);
        }
        Due.end();
    }

    private void go(int run) {
        while (left > 0 && agrees) {
            some();
        }
        Due.holds("run " + run + ":\n" + (agrees ? "" : told), agrees);
    }

    /** The next of a fixed row of numbers, 0 .. bound less 1. */
    private int upTo(int bound) {
        seed = seed * 6364136223846793005L + 1442695040888963407L;
        return (int) ((seed >>> 33) % bound);
    }

    private int from(int least, int most) {
        return least + upTo(most - least + 1);
    }

    private int mostly(int least, int most) {
        int which = upTo(60);
        if (which == 0) {
            return least - 1;
        }
        if (which == 1) {
            return most + 1;
        }
        if (which == 2) {
            int[] far = {Integer.MIN_VALUE, Integer.MAX_VALUE, -1, 0, 1, 64, 1 << 20, Integer.MIN_VALUE + 1};
            return far[upTo(far.length)];
        }
        return from(least, most);
    }

    private void same(String call, long got, long want) {
        // What calls behind the 512th answer is free.
        if (left == 0) {
            return;
        }
        left--;
        told.append("  ").append(call).append(" = ").append(want).append('\n');
        if (got != want) {
            told.append("  but it answered ").append(got).append('\n');
            agrees = false;
        }
    }

    private String text() {
        int high = from(1, 4);
        int wide = from(2, 5);
        int solid = from(0, 9);
        StringBuilder text = new StringBuilder("c").append(high).append(wide).append(upTo(10));
        for (int row = 0; row < high; row++) {
            text.append(';');
            for (int column = 0; column < wide; column++) {
                text.append(upTo(3) == 0 ? upTo(10) : from(solid, 9));
            }
        }
        int skaters = from(2, 4);
        int heaviest = from(1, 9);
        for (int a = 0; a < skaters; a++) {
            text.append(',').append("sskkb".charAt(upTo(5))).append(from(1, heaviest));
        }
        switch (upTo(8)) {
            case 0: text.setLength(upTo(text.length())); break;
            case 1: text.setCharAt(upTo(text.length()), "cskb;,0123456789 x/:".charAt(upTo(20))); break;
            case 2: text.append(",s1;".charAt(upTo(4))); break;
            default: break;
        }
        return text.toString();
    }

    private void makeCanal() {
        String text = text();
        int lane = upTo(3);
        int k = upTo(4);
        int ahead = upTo(3);
        fill(k, lane, ahead, text.chars().toArray());
        int n = text.length();
        same("canal of " + text, x.canal(k, lane, ahead, n), y.canal(k, lane, ahead, n));
    }

    /** Strokes from a cell on that seldom lead off the ice. */
    private void makeStrokes(int c) {
        int wide = Math.max(1, y.many(2));
        int[] strokes = new int[from(8, 16)];
        int at = c;
        for (int i = 0; i < strokes.length; i++) {
            int stroke = upTo(4);
            for (int look = 0; look < 4 && !staysOn(at, stroke, wide); look++) {
                stroke = (stroke + 1) % 4;
            }
            at += new int[] {-wide, 1, wide, -1}[stroke];
            strokes[i] = upTo(60) == 0 ? mostly(0, 3) : stroke;
        }
        fill(3, 2, 0, strokes);
    }

    private boolean staysOn(int at, int stroke, int wide) {
        switch (stroke) {
            case 0: return at >= wide;
            case 1: return at % wide < wide - 1;
            case 2: return at + wide < y.many(1);
            default: return at % wide > 0;
        }
    }

    private void fill(int k, int lane, int ahead, int[] numbers) {
        int n = numbers.length + ahead;
        same("sheet(" + k + ", " + lane + ", " + n + ")", x.sheet(k, lane, n), y.sheet(k, lane, n));
        for (int i = 0; i < numbers.length; i++) {
            int v = numbers[i];
            same("put(" + k + ", " + (ahead + i) + ", " + v + ")", x.put(k, ahead + i, v), y.put(k, ahead + i, v));
        }
    }

    private int cells() {
        return Math.max(1, y.many(1));
    }

    private int skater() {
        return mostly(0, Math.max(1, y.many(0)) - 1);
    }

    private int other(int a) {
        int many = y.many(0);
        return many < 2 || a < 0 || a >= many || upTo(30) == 0 ? skater() : (a + from(1, many - 1)) % many;
    }

    private int cell() {
        return mostly(0, cells() - 1);
    }

    private void some() {
        if (y.many(1) == 0 && upTo(3) == 0) {
            makeCanal();
            return;
        }
        switch (upTo(14)) {
            case 0: someOfTheCanal(); break;
            case 1: case 2: someDeed(); break;
            case 3: someWeather(); break;
            case 4: case 5: someBond(); break;
            case 6: someOdds(); break;
            case 7: case 8: case 9: someReading(); break;
            case 10: case 11: someSheet(); break;
            case 12: someParts(); break;
            default: someLook(); break;
        }
    }

    private void someOfTheCanal() {
        int k = mostly(0, 3);
        int lane = mostly(0, 2);
        int i = mostly(0, 60);
        int n = mostly(0, 60);
        switch (upTo(12)) {
            case 0: makeCanal(); break;
            case 1: case 2:
                same("canal(" + k + ", " + lane + ", " + i + ", " + n + ")", x.canal(k, lane, i, n), y.canal(k, lane, i, n));
                break;
            case 3: case 4: case 5: {
                int c = cell();
                int v = mostly(0, 9);
                same("freeze(" + c + ", " + v + ")", x.freeze(c, v), y.freeze(c, v));
                break;
            }
            default: {
                int a = skater();
                int what = mostly(0, 3);
                same("ofSkater(" + a + ", " + what + ")", x.ofSkater(a, what), y.ofSkater(a, what));
                break;
            }
        }
    }

    private void someDeed() {
        int a = skater();
        int b = other(a);
        int c = cell();
        if (upTo(3) > 0) {
            makeStrokes(c);
        }
        int k = upTo(20) == 0 ? mostly(0, 3) : 3;
        int lane = upTo(20) == 0 ? mostly(0, 2) : 2;
        int i = upTo(6) == 0 ? mostly(0, 60) : 0;
        int n = upTo(10) == 0 ? mostly(0, 40) : upTo(9);
        String told = "(" + a + ", " + b + ", " + c + ", " + k + ", " + lane + ", " + i + ", " + n;
        for (int what = 0; what <= 4; what++) {
            int asked = mostly(what, what);
            String call = "deed" + told + ", " + asked + ")";
            same(call, x.deed(a, b, c, k, lane, i, n, asked), y.deed(a, b, c, k, lane, i, n, asked));
        }
        if (upTo(3) == 0) {
            same("write" + told + ")", x.write(a, b, c, k, lane, i, n), y.write(a, b, c, k, lane, i, n));
        }
        same("fault()", x.fault(), y.fault());
    }

    private void someWeather() {
        int n = upTo(3) == 0 ? mostly(0, 9) : upTo(2);
        switch (upTo(3)) {
            case 0: same("nights(" + n + ")", x.nights(n), y.nights(n)); break;
            case 1: same("thaw(" + n + ")", x.thaw(n), y.thaw(n)); break;
            default: same("frost(" + n + ")", x.frost(n), y.frost(n)); break;
        }
    }

    private void someBond() {
        int a = skater();
        int b = other(a);
        int from = cell();
        int to = cell();
        String told = "(" + a + ", " + b + ", " + from + ", " + to;
        int strokes = y.bond(a, b, from, to, -1);
        for (int k = -1; k <= Math.min(strokes, 12); k++) {
            same("bond" + told + ", " + k + ")", x.bond(a, b, from, to, k), y.bond(a, b, from, to, k));
        }
        int k = mostly(-1, 39);
        same("bond" + told + ", " + k + ")", x.bond(a, b, from, to, k), y.bond(a, b, from, to, k));
        same("holds" + told + ")", x.holds(a, b, from, to), y.holds(a, b, from, to));
        same("neck" + told + ")", x.neck(a, b, from, to), y.neck(a, b, from, to));
        same("alone(" + a + ", " + from + ")", x.alone(a, from), y.alone(a, from));
    }

    private void someOdds() {
        int a = skater();
        int b = other(a);
        int from = cell();
        int to = cell();
        int set = 0;
        int members = from(0, upTo(20) == 0 ? 12 : 7);
        for (int k = 0; k < members; k++) {
            set |= 1 << (upTo(40) == 0 ? upTo(32) : upTo(cells()));
        }
        int which = mostly(0, 1);
        String told = "odds(" + a + ", " + b + ", " + from + ", " + to + ", " + set + ", ";
        same(told + which + ")", x.odds(a, b, from, to, set, which), y.odds(a, b, from, to, set, which));
        same(told + "0)", x.odds(a, b, from, to, set, 0), y.odds(a, b, from, to, set, 0));
        same(told + "1)", x.odds(a, b, from, to, set, 1), y.odds(a, b, from, to, set, 1));
    }

    private void someReading() {
        int a = skater();
        int c = cell();
        switch (upTo(5)) {
            case 0: {
                boolean isSo = y.strength(c) >= 0 && y.ofSkater(a, 2) <= y.strength(c);
                boolean bore = upTo(6) == 0 ? !isSo : isSo;
                same("reading(" + a + ", " + c + ", " + bore + ")", x.reading(a, c, bore), y.reading(a, c, bore));
                break;
            }
            case 1: {
                int k = upTo(4) == 0 ? mostly(0, 8) : upTo(2);
                same("back(" + k + ")", x.back(k), y.back(k));
                break;
            }
            default:
                same("weights(" + a + ")", x.weights(a), y.weights(a));
                same("kinds(" + a + ")", x.kinds(a), y.kinds(a));
                same("strengths(" + c + ")", x.strengths(c), y.strengths(c));
                break;
        }
    }

    private void someSheet() {
        int k = mostly(0, 3);
        int lane = mostly(0, 2);
        int i = upTo(4) == 0 ? mostly(0, 60) : upTo(12);
        switch (upTo(8)) {
            case 0: {
                int n = upTo(3) == 0 ? mostly(0, 60) : upTo(16);
                same("sheet(" + k + ", " + lane + ", " + n + ")", x.sheet(k, lane, n), y.sheet(k, lane, n));
                break;
            }
            case 1: same("lose(" + k + ")", x.lose(k), y.lose(k)); break;
            case 2: case 3: {
                int v = mostly(-300, 70000);
                same("put(" + k + ", " + i + ", " + v + ")", x.put(k, i, v), y.put(k, i, v));
                break;
            }
            case 4: case 5: {
                int other = upTo(2) == 0 ? k : mostly(0, 3);
                int j = upTo(6) == 0 ? mostly(0, 60) : upTo(6);
                int n = upTo(6) == 0 ? mostly(0, 60) : upTo(6);
                String told = "copy(" + k + ", " + i + ", " + other + ", " + j + ", " + n + ")";
                same(told, x.copy(k, i, other, j, n), y.copy(k, i, other, j, n));
                break;
            }
            default: same("cell(" + k + ", " + i + ", " + lane + ")", x.cell(k, i, lane), y.cell(k, i, lane)); break;
        }
        same("fault()", x.fault(), y.fault());
    }

    private void someParts() {
        int a = skater();
        int kind = mostly(0, 2);
        switch (upTo(4)) {
            case 0: same("tell(" + a + ")", x.tell(a), y.tell(a)); break;
            case 1: same("signed(" + a + ")", x.signed(a), y.signed(a)); break;
            case 2: same("as(" + a + ", " + kind + ")", x.as(a, kind), y.as(a, kind)); break;
            default: same("trace()", x.trace(), y.trace()); break;
        }
        same("fault()", x.fault(), y.fault());
    }

    private void someLook() {
        int what = mostly(0, 4);
        same("many(" + what + ")", x.many(what), y.many(what));
        for (int look = 0; look < 3; look++) {
            int c = cell();
            same("strength(" + c + ")", x.strength(c), y.strength(c));
        }
        same("trace()", x.trace(), y.trace());
        same("fault()", x.fault(), y.fault());
    }
}
