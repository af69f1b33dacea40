import java.util.ArrayDeque;
import java.util.ArrayList;
import java.util.Arrays;
import java.util.HashSet;
import java.util.List;
import java.util.regex.Matcher;
import java.util.regex.Pattern;

/** The document told a second time, by the Java library and without thrift: what SkateBonds is held against. */
final class PlainBonds {
    private static final int NONE = -9;
    private static final long LOST = Long.MIN_VALUE;
    private static final Pattern TEXT = textPattern();

    /** null, byte[], short[] or int[]. */
    private final Object[] sheets = new Object[4];
    private int high;
    private int wide;
    private int frost;
    private int[] ice = {};
    private String letters = "";
    private int[] weight = {};
    private final List<int[]> readings = new ArrayList<>();
    private int trace;
    private int fault;

    private static Pattern textPattern() {
        StringBuilder all = new StringBuilder();
        for (int high = 1; high <= 4; high++) {
            for (int wide = 2; wide <= 5; wide++) {
                all.append(all.length() == 0 ? "" : "|").append("c").append(high).append(wide)
                    .append("[0-9](?:;[0-9]{").append(wide).append("}){").append(high).append("}(?:,[skb][1-9]){2,4}");
            }
        }
        return Pattern.compile(all.toString());
    }

    private static boolean canGoOn(String begun) {
        Matcher matcher = TEXT.matcher(begun);
        return matcher.matches() || matcher.hitEnd();
    }

    private boolean skater(int a) {
        return a >= 0 && a < weight.length;
    }

    private boolean cellIs(int c) {
        return c >= 0 && c < ice.length;
    }

    private boolean pair(int a, int b) {
        return skater(a) && skater(b) && a != b;
    }

    private static boolean sheetIs(int k) {
        return k >= 0 && k <= 3;
    }

    private int fall(int number) {
        fault = number;
        return -10 - number;
    }

    private static int laneOf(Object row) {
        return row instanceof byte[] ? 0 : row instanceof short[] ? 1 : row instanceof int[] ? 2 : -1;
    }

    private static int lengthOf(Object row) {
        return java.lang.reflect.Array.getLength(row);
    }

    private static long numberOf(Object row, int i) {
        return java.lang.reflect.Array.getLong(row, i);
    }

    private static boolean part(Object row, int i, int n) {
        return i >= 0 && i <= lengthOf(row) && n >= 0 && (long) i + n <= lengthOf(row);
    }

    private int kindOf(int a) {
        return "skb".indexOf(letters.charAt(a));
    }

    private static int loadOf(int kind, int weight) {
        return new int[] {weight, weight + 1, (weight + 1) * 2}[kind];
    }

    private int load(int a) {
        return loadOf(kindOf(a), weight[a]);
    }

    // ---- 1

    int canal(int sheet, int lane, int i, int n) {
        fault = 0;
        if (!sheetIs(sheet)) return -1;
        if (lane < 0 || lane > 2) return -2;
        Object row = sheets[sheet];
        if (row != null && laneOf(row) != lane) return fall(2);
        if (row == null) return fall(1);
        if (n < 0) return fall(4);
        if (!part(row, i, n)) return fall(3);
        StringBuilder codes = new StringBuilder();
        for (int k = i; k < i + n; k++) {
            long code = numberOf(row, k);
            codes.append(code >= 0 && code <= 127 ? (char) code : '?');
        }
        String text = codes.toString();
        if (!TEXT.matcher(text).matches()) {
            for (int k = 0; k < n; k++) {
                if (!canGoOn(text.substring(0, k + 1))) return -100 - k;
            }
            return -100 - n;
        }
        String[] parts = text.split(",");
        high = text.charAt(1) - '0';
        wide = text.charAt(2) - '0';
        frost = text.charAt(3) - '0';
        ice = parts[0].substring(4).replace(";", "").chars().map(code -> code - '0').toArray();
        letters = "";
        weight = new int[parts.length - 1];
        for (int a = 0; a < weight.length; a++) {
            letters += parts[a + 1].charAt(0);
            weight[a] = parts[a + 1].charAt(1) - '0';
        }
        readings.clear();
        return weight.length;
    }

    int ofSkater(int a, int what) {
        if (!skater(a)) return -1;
        if (what < 0 || what > 3) return -2;
        int bear = 0;
        for (int c = 0; c < ice.length; c++) {
            if (ice[c] >= load(a)) bear += 1 << c;
        }
        return new int[] {kindOf(a), weight[a], load(a), bear}[what];
    }

    int strength(int c) {
        return cellIs(c) ? ice[c] : -1;
    }

    int freeze(int c, int v) {
        if (!cellIs(c)) return -1;
        if (v < 0 || v > 9) return -2;
        int was = ice[c];
        ice[c] = v;
        return was;
    }

    int frost(int v) {
        if (v < 0 || v > 9) return -2;
        if (ice.length == 0) return -3;
        int was = frost;
        frost = v;
        return was;
    }

    // ---- 2

    private int next(int c, int stroke) {
        int y = c / wide + new int[] {-1, 0, 1, 0}[stroke];
        int x = c % wide + new int[] {0, 1, 0, -1}[stroke];
        return y < 0 || y >= high || x < 0 || x >= wide ? -1 : y * wide + x;
    }

    int deed(int a, int b, int c, int sheet, int lane, int i, int n, int what) {
        return make(a, b, c, sheet, lane, i, n, what, false);
    }

    int write(int a, int b, int c, int sheet, int lane, int i, int n) {
        return make(a, b, c, sheet, lane, i, n, 0, true);
    }

    private int make(int a, int b, int c, int sheet, int lane, int i, int n, int what, boolean isWritten) {
        fault = 0;
        if (!pair(a, b) || !cellIs(c) || !sheetIs(sheet)) return -1;
        if (lane < 0 || lane > 2 || n < 0 || n > 40 || what < 0 || what > 4) return -2;
        Object row = sheets[sheet];
        if (row != null && laneOf(row) != lane) return fall(2);
        if (row == null) return fall(1);
        if (!part(row, i, n)) return fall(3);
        for (int k = i; k < i + n; k++) {
            if (numberOf(row, k) < 0 || numberOf(row, k) > 3) return -2;
        }
        int[] worn = ice.clone();
        int at = c;
        for (int k = 0; k < n; k++) {
            int to = next(at, (int) numberOf(row, i + k));
            if (to < 0 || worn[to] < load(k % 2 == 1 ? b : a)) return what == 1 ? k : -100 - k;
            worn[to] = Math.max(0, worn[to] - 1);
            at = to;
        }
        int cut = 0;
        for (int k = 0; k < ice.length; k++) {
            if (worn[k] != ice[k]) cut += 1 << k;
        }
        if (isWritten) {
            ice = worn;
            return n;
        }
        return new int[] {at, NONE, cut, worn[at], n - n / 2}[what];
    }

    int nights(int n) {
        if (n < 0 || n > 9) return -2;
        if (ice.length == 0) return -3;
        for (int night = 0; night < n; night++) {
            for (int c = 0; c < ice.length; c++) ice[c] = Math.min(9, ice[c] + frost);
        }
        return (int) Arrays.stream(ice).filter(v -> v == 9).count();
    }

    int thaw(int n) {
        if (n < 0 || n > 9) return -2;
        if (ice.length == 0) return -3;
        for (int day = 0; day < n; day++) {
            for (int c = 0; c < ice.length; c++) ice[c] = Math.max(0, ice[c] - 1);
        }
        return (int) Arrays.stream(ice).filter(v -> v == 0).count();
    }

    // ---- 3

    /** The strokes of a bond on the ice, as a text; null: there is none. */
    private String bond(int a, int b, int from, int to, int[] ground) {
        ArrayDeque<Object[]> open = new ArrayDeque<>();
        HashSet<Integer> seen = new HashSet<>();
        open.add(new Object[] {from, ""});
        while (!open.isEmpty()) {
            Object[] state = open.remove();
            int at = (Integer) state[0];
            String strokes = (String) state[1];
            if (at == to) return strokes;
            int who = strokes.length() % 2 == 0 ? a : b;
            if (!seen.add(at * 2 + strokes.length() % 2)) continue;
            for (int stroke = 0; stroke < 4; stroke++) {
                int next = next(at, stroke);
                if (next >= 0 && ground[next] >= load(who)) open.add(new Object[] {next, strokes + stroke});
            }
        }
        return null;
    }

    private int[] thawed(int days) {
        return Arrays.stream(ice).map(v -> Math.max(0, v - days)).toArray();
    }

    private int[] broken(int set) {
        int[] ground = ice.clone();
        for (int c = 0; c < ground.length; c++) {
            if ((set & 1 << c) != 0) ground[c] = -1;
        }
        return ground;
    }

    int bond(int a, int b, int from, int to, int k) {
        if (!pair(a, b) || !cellIs(from) || !cellIs(to)) return -1;
        if (k < -1 || k > 39) return -2;
        String strokes = bond(a, b, from, to, ice);
        if (strokes == null) return NONE;
        if (k == -1) return strokes.length();
        return k < strokes.length() ? strokes.charAt(k) - '0' : NONE;
    }

    int holds(int a, int b, int from, int to) {
        if (!pair(a, b) || !cellIs(from) || !cellIs(to)) return -1;
        int most = NONE;
        for (int days = 0; days <= 9; days++) {
            if (bond(a, b, from, to, thawed(days)) != null) most = days;
        }
        return most;
    }

    int alone(int a, int from) {
        if (!skater(a) || !cellIs(from)) return -1;
        boolean[] there = new boolean[ice.length];
        comeTo(a, from, there);
        int set = 0;
        for (int c = 0; c < there.length; c++) {
            if (there[c]) set += 1 << c;
        }
        return set;
    }

    private void comeTo(int a, int c, boolean[] there) {
        if (there[c]) return;
        there[c] = true;
        for (int stroke = 0; stroke < 4; stroke++) {
            int next = next(c, stroke);
            if (next >= 0 && ice[next] >= load(a)) comeTo(a, next, there);
        }
    }

    int neck(int a, int b, int from, int to) {
        if (!pair(a, b) || !cellIs(from) || !cellIs(to)) return -1;
        if (bond(a, b, from, to, ice) == null) return NONE;
        for (int c = 0; c < ice.length; c++) {
            if (c == from || c == to) continue;
            if (bond(a, b, from, to, broken(1 << c)) == null) return c;
        }
        return NONE;
    }

    // ---- 4

    int reading(int a, int c, boolean bore) {
        if (!skater(a) || !cellIs(c)) return -1;
        if (readings.size() == 8) return -4;
        readings.add(new int[] {a, c, bore ? 1 : 0});
        return readings.size() - 1;
    }

    int back(int k) {
        if (k < 0 || k > readings.size()) return -2;
        for (int i = 0; i < k; i++) readings.remove(readings.size() - 1);
        return readings.size();
    }

    /** Whether all readings are so if skater a has a load, and cell c a strength; -1 is none. */
    private boolean so(int a, int loadOfA, int c, int strengthOfC) {
        for (int[] r : readings) {
            int load = r[0] == a ? loadOfA : load(r[0]);
            int strong = r[1] == c ? strengthOfC : ice[r[1]];
            if ((load <= strong ? 1 : 0) != r[2]) return false;
        }
        return true;
    }

    int weights(int a) {
        if (!skater(a)) return -1;
        int set = 0;
        for (int w = 1; w <= 9; w++) {
            if (so(a, loadOf(kindOf(a), w), -1, 0)) set += 1 << w;
        }
        return set;
    }

    int kinds(int a) {
        if (!skater(a)) return -1;
        int set = 0;
        for (int kind = 0; kind <= 2; kind++) {
            if (so(a, loadOf(kind, weight[a]), -1, 0)) set += 1 << kind;
        }
        return set;
    }

    int strengths(int c) {
        if (!cellIs(c)) return -1;
        int set = 0;
        for (int v = 0; v <= 9; v++) {
            if (so(-1, 0, c, v)) set += 1 << v;
        }
        return set;
    }

    long odds(int a, int b, int from, int to, int set, int which) {
        if (!pair(a, b) || !cellIs(from) || !cellIs(to)) return LOST;
        List<Integer> cells = new ArrayList<>();
        for (int c = 0; c < 32; c++) {
            if ((set >>> c & 1) == 1) cells.add(c);
        }
        if (cells.size() > 8 || which < 0 || which > 1) return LOST;
        for (int c : cells) {
            if (!cellIs(c)) return LOST;
        }
        long upper = 0;
        long lower = 1L << cells.size();
        for (int choice = 0; choice < lower; choice++) {
            int gone = 0;
            for (int k = 0; k < cells.size(); k++) {
                if ((choice >> k & 1) == 1) gone |= 1 << cells.get(k);
            }
            if (bond(a, b, from, to, broken(gone)) != null) upper++;
        }
        long common = gcd(upper, lower);
        return which == 0 ? upper / common : lower / common;
    }

    private static long gcd(long p, long q) {
        return q == 0 ? p : gcd(q, p % q);
    }

    // ---- 5

    int sheet(int k, int lane, int n) {
        fault = 0;
        if (!sheetIs(k)) return -1;
        if (lane < 0 || lane > 2 || n > 60) return -2;
        if (n < 0) return fall(4);
        sheets[k] = lane == 0 ? new byte[n] : lane == 1 ? new short[n] : new int[n];
        return 1;
    }

    int lose(int k) {
        if (!sheetIs(k)) return -1;
        int had = sheets[k] == null ? 0 : 1;
        sheets[k] = null;
        return had;
    }

    int put(int k, int i, int v) {
        fault = 0;
        if (!sheetIs(k)) return -1;
        if (sheets[k] == null) return fall(1);
        if (!part(sheets[k], i, 1)) return fall(3);
        if (sheets[k] instanceof byte[] bytes) bytes[i] = (byte) v;
        if (sheets[k] instanceof short[] shorts) shorts[i] = (short) v;
        if (sheets[k] instanceof int[] ints) ints[i] = v;
        return 1;
    }

    long cell(int k, int i, int lane) {
        fault = 0;
        if (!sheetIs(k) || lane < 0 || lane > 2) return LOST;
        int came = sheets[k] != null && laneOf(sheets[k]) != lane ? fall(2) : sheets[k] == null ? fall(1)
            : !part(sheets[k], i, 1) ? fall(3) : 0;
        return came != 0 ? LOST : numberOf(sheets[k], i);
    }

    int copy(int k, int i, int other, int j, int n) {
        fault = 0;
        if (!sheetIs(k) || !sheetIs(other)) return -1;
        if (sheets[k] == null || sheets[other] == null) return fall(1);
        if (laneOf(sheets[k]) != laneOf(sheets[other])) return fall(2);
        if (!part(sheets[k], i, n) || !part(sheets[other], j, n)) return fall(3);
        long[] were = new long[n];
        for (int c = 0; c < n; c++) were[c] = numberOf(sheets[k], i + c);
        for (int c = 0; c < n; c++) put(other, j + c, (int) were[c]);
        return n;
    }

    /** The bodies are told as the Java machine would call them. */
    private class Skater {
        final int a;

        Skater(int a) {
            this.a = a;
        }

        int tell() {
            return skaterTells();
        }

        final int skaterTells() {
            trace = trace * 31 + 1;
            return weight[a];
        }

        int sign() {
            trace = trace * 31 + 4;
            return a;
        }
    }

    private class Clerk extends Skater {
        Clerk(int a) {
            super(a);
        }

        @Override
        int tell() {
            trace = trace * 31 + 2;
            return super.tell() + 100;
        }
    }

    private final class Banker extends Clerk {
        Banker(int a) {
            super(a);
        }

        @Override
        int tell() {
            trace = trace * 31 + 3;
            return super.tell() + skaterTells();
        }

        @Override
        int sign() {
            trace = trace * 31 + 5;
            return 60;
        }
    }

    private Skater of(int a) {
        return kindOf(a) == 2 ? new Banker(a) : kindOf(a) == 1 ? new Clerk(a) : new Skater(a);
    }

    int tell(int a) {
        return skater(a) ? of(a).tell() : -1;
    }

    int signed(int a) {
        return skater(a) ? of(a).sign() : -1;
    }

    int as(int a, int kind) {
        fault = 0;
        if (!skater(a)) return -1;
        if (kind < 0 || kind > 2) return -2;
        Class<?> wanted = List.of(Skater.class, Clerk.class, Banker.class).get(kind);
        return wanted.isInstance(of(a)) ? 1 : fall(2);
    }

    int trace() {
        return trace;
    }

    int fault() {
        return fault;
    }

    int many(int what) {
        if (what < 0 || what > 4) return -2;
        return new int[] {weight.length, ice.length, wide, frost, readings.size()}[what];
    }
}
