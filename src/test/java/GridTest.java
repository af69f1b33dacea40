import java.util.List;
import java.util.function.Consumer;

/**
 * All promises: each call with all that can stand at the edges of what it is asked with, in all combinations, against
 * PlainBonds: what it answers, what fault() says, and what there is to be seen behind it.
 */
public final class GridTest {
    private static final int MIN = Integer.MIN_VALUE;
    private static final int MAX = Integer.MAX_VALUE;
    /** So many calls that an object is asked no more than 512 times in all. */
    private static final int CALLS = 30;

    private static final Object[] SKATERS = {MIN, -1, 0, 1, 2, 3, 4, MAX};
    private static final Object[] FEW_SKATERS = {-1, 0, 1, 3, 4};
    private static final Object[] CELLS = {MIN, -1, 0, 3, 11, 12, 19, 20, MAX};
    private static final Object[] FEW_CELLS = {-1, 0, 3, 12, 20};
    private static final Object[] SHEETS = {MIN, -1, 0, 1, 2, 3, 4, MAX};
    private static final Object[] FEW_SHEETS = {-1, 0, 1, 2, 4};
    private static final Object[] LANES = {MIN, -1, 0, 1, 2, 3, MAX};
    private static final Object[] FEW_LANES = {-1, 0, 2, 3};
    private static final Object[] PLACES = {MIN, -1, 0, 1, 3, 10, 11, 12, 28, 59, 60, 61, MAX};
    private static final Object[] FEW_PLACES = {-1, 0, 1, 11, 12, MAX};
    private static final Object[] NUMBERS = {MIN, -1, 0, 1, 2, 10, 11, 13, 28, 40, 41, 59, 60, 61, MAX};
    private static final Object[] FEW_NUMBERS = {MIN, -1, 0, 1, 4, 40, 41, MAX};
    private static final Object[] DIGITS = {MIN, -1, 0, 1, 8, 9, 10, MAX};
    private static final Object[] FEW_WHATS = {-1, 0, 1, 3, 5};
    private static final Object[] WHATS = {MIN, -1, 0, 1, 2, 3, 4, 5, MAX};
    private static final Object[] VALUES = {MIN, -32769, -129, -1, 0, 99, 127, 128, 255, 256, 32767, 32768, 65536, MAX};
    private static final Object[] SETS = {MIN, -1, 0, 1, 128, 255, 511, 256, 2048, 4096, 4095, 1 << 19, 1 << 20, MAX};
    private static final Object[] BORE = {true, false};

    private final Consumer<Object> made;
    private SkateBonds x = new SkateBonds();
    private PlainBonds y = new PlainBonds();
    private StringBuilder told = new StringBuilder();
    private int left = 0;

    private GridTest(Consumer<Object> made) {
        this.made = made;
    }

    public static void main(String[] args) {
        Due.part("promises 1 to 31");
        List<Consumer<Object>> states = List.of(x -> { }, GridTest::middle, GridTest::largest, GridTest::smallest);
        for (Consumer<Object> state : states) {
            GridTest test = new GridTest(state);
            test.canal();
            test.deeds();
            test.bonds();
            test.readings();
            test.sheets();
            test.parts();
            test.end();
        }
        Due.end();
    }

    private static void take(Object x, int k, int lane, String text) {
        Calls.ask(x, "sheet", k, lane, text.length());
        for (int i = 0; i < text.length(); i++) {
            Calls.ask(x, "put", k, i, (int) text.charAt(i));
        }
        Calls.ask(x, "canal", k, lane, 0, text.length());
    }

    private static void row(Object x, int k, int lane, int... numbers) {
        Calls.ask(x, "sheet", k, lane, numbers.length);
        for (int i = 0; i < numbers.length; i++) {
            Calls.ask(x, "put", k, i, numbers[i]);
        }
    }

    private static void smallest(Object x) {
        take(x, 0, 0, "c129;12,s1,k1");
        row(x, 1, 1);
        row(x, 2, 2, 1);
        row(x, 3, 2, 3, 1, 4);
    }

    private static void middle(Object x) {
        take(x, 3, 2, "c342;9135;2864;7109,s3,k5,b2");
        row(x, 0, 0, 9, 3, 2, 1, 2, 0, 2, 3, 0, 4, -1);
        row(x, 1, 1, 3, 2, 300);
        Calls.ask(x, "reading", 0, 2, true);
        Calls.ask(x, "reading", 1, 7, false);
        Calls.ask(x, "tell", 2);
    }

    private static void largest(Object x) {
        take(x, 0, 2, "c451;99999;98979;12345;99889,s1,k2,b3,s9");
        row(x, 0, 2, 1, 1, 1, 1, 2, 2, 2, 3, 3, 3, 3, 0);
        row(x, 2, 2, 5, 6, 7, 8);
        for (int k = 0; k < 5; k++) {
            Calls.ask(x, "reading", k % 4, k, k % 4 < 3);
        }
    }

    /** Asks a call with each combination of what may stand in its places. */
    private void grid(String name, Object[]... places) {
        int[] at = new int[places.length];
        boolean goesOn = true;
        while (goesOn) {
            Object[] with = new Object[places.length];
            for (int k = 0; k < places.length; k++) {
                with[k] = places[k][at[k]];
            }
            ask(name, with);
            int next = 0;
            while (next < places.length && at[next] == places[next].length - 1) {
                at[next] = 0;
                next++;
            }
            goesOn = next < places.length;
            if (goesOn) {
                at[next]++;
            }
        }
    }

    private void ask(String name, Object... with) {
        if (left == 0) {
            begin();
        }
        left--;
        long got = Calls.ask(x, name, with);
        long want = Calls.ask(y, name, with);
        told.append("  ").append(Calls.told(name, with)).append(" = ").append(want).append('\n');
        if (got != want || x.fault() != y.fault()) {
            Due.is("the last of\n" + told, got, want);
            Due.is("fault() behind it", x.fault(), y.fault());
            left = 0;
        }
    }

    private void begin() {
        end();
        x = new SkateBonds();
        y = new PlainBonds();
        made.accept(x);
        made.accept(y);
        told = new StringBuilder();
        left = CALLS;
    }

    private void end() {
        List<String> got = Look.at(x);
        List<String> want = Look.at(y);
        boolean agrees = got.equals(want);
        Due.holds(agrees ? "" : "what is seen behind\n" + told + got + "\nas\n" + want, agrees);
    }

    private void canal() {
        grid("canal", SHEETS, LANES, PLACES, NUMBERS);
        grid("ofSkater", SKATERS, WHATS);
        grid("strength", CELLS);
        grid("freeze", CELLS, DIGITS);
        grid("frost", DIGITS);
        grid("many", WHATS);
    }

    private void deeds() {
        grid("deed", FEW_SKATERS, FEW_SKATERS, FEW_CELLS, FEW_SHEETS, FEW_LANES, FEW_PLACES, FEW_NUMBERS, FEW_WHATS);
        grid("write", FEW_SKATERS, FEW_SKATERS, CELLS, FEW_SHEETS, FEW_LANES, FEW_PLACES, FEW_NUMBERS);
        grid("nights", DIGITS);
        grid("thaw", DIGITS);
    }

    private void bonds() {
        grid("bond", SKATERS, SKATERS, CELLS, CELLS, new Object[] {MIN, -2, -1, 0, 1, 7, 39, 40, MAX});
        grid("holds", SKATERS, SKATERS, CELLS, CELLS);
        grid("alone", SKATERS, CELLS);
        grid("neck", SKATERS, SKATERS, CELLS, CELLS);
        grid("odds", FEW_SKATERS, FEW_SKATERS, FEW_CELLS, CELLS, SETS, new Object[] {-1, 0, 1, 2});
    }

    private void readings() {
        grid("reading", SKATERS, CELLS, BORE);
        grid("back", new Object[] {MIN, -1, 0, 1, 2, 3, 7, 8, 9, MAX});
        grid("reading", SKATERS, CELLS, BORE);
        grid("weights", SKATERS);
        grid("kinds", SKATERS);
        grid("strengths", CELLS);
    }

    private void sheets() {
        for (Object k : SHEETS) {
            // Long rows of all SHEETS at once would be too much to look at.
            begin();
            grid("sheet", new Object[] {k}, LANES, NUMBERS);
        }
        grid("lose", SHEETS);
        grid("put", SHEETS, PLACES, VALUES);
        grid("cell", SHEETS, PLACES, LANES);
        grid("copy", SHEETS, PLACES, SHEETS, PLACES, FEW_NUMBERS);
        grid("copy", FEW_SHEETS, FEW_PLACES, FEW_SHEETS, FEW_PLACES, NUMBERS);
    }

    private void parts() {
        grid("tell", SKATERS);
        grid("signed", SKATERS);
        grid("as", SKATERS, LANES);
        grid("trace");
        grid("fault");
    }
}
