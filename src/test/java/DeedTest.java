/** Promises 7 to 10: deeds, nights, thaw. */
public final class DeedTest {
    private static final int MIN = Integer.MIN_VALUE;
    private static final int MAX = Integer.MAX_VALUE;

    private DeedTest() {
    }

    public static void main(String[] args) {
        deedAnswers();
        deedFirstWrongs();
        deedOverTheEdges();
        deedWears();
        deedRefusals();
        deedFaults();
        deedOnAllOfTheIce();
        write();
        writeRefusals();
        writeFaults();
        nights();
        thaw();
        Due.end();
    }

    /** From cell 3 on; the last stroke leads to cell 10, which bears nobody. */
    private static SkateBonds withDeed() {
        SkateBonds x = Canals.on(Canals.TEXT);
        Canals.row(x, 0, 0, 9, 3, 2, 1, 2, 0, 2, 3, 0, 4, -1);
        return x;
    }

    private static void deedAnswers() {
        Due.part("promise 7");
        SkateBonds x = withDeed();
        int[][] want = {
            {3, -9, 0, 5, 0},
            {2, -9, Canals.set(2), 2, 1},
            {6, -9, Canals.set(2, 6), 5, 1},
            {7, -9, Canals.set(2, 6, 7), 3, 2},
            {11, -9, Canals.set(2, 6, 7, 11), 8, 2},
            {7, -9, Canals.set(2, 6, 7, 11), 2, 3},
            {11, -9, Canals.set(2, 6, 7, 11), 7, 3},
            {-106, 6, -106, -106, -106},
            {-106, 6, -106, -106, -106},
        };
        for (int n = 0; n < want.length; n++) {
            for (int what = 0; what <= 4; what++) {
                Due.is("n " + n + ", what " + what, x.deed(0, 1, 3, 0, 0, 1, n, what), want[n][what]);
            }
        }
        Due.is("the other begins", x.deed(1, 0, 3, 0, 0, 1, 1, 0), -100);
        Due.is("the other begins, what 1", x.deed(1, 0, 3, 0, 0, 1, 1, 1), 0);
        Due.is("nothing is changed", x.strength(7), 4);
        Due.is("nothing is changed", x.strength(11), 9);
        Due.is("a part of the row", x.deed(1, 0, 2, 0, 0, 2, 2, 0), 7);
    }

    private static void deedFirstWrongs() {
        Due.part("promise 7, FIRST WRONG");
        SkateBonds x = Canals.on("c120;99,s1,k1,s2");
        x.sheet(0, 1, 60);
        for (int i = 0; i < 60; i++) {
            x.put(0, i, i % 2 == 0 ? 1 : 3);
        }
        Due.is("18 of loads 1, 2: 16 of both, cell 0 is 1 then", x.deed(0, 1, 0, 0, 1, 0, 40, 1), 17);
        Due.is("-100 less it", x.deed(0, 1, 0, 0, 1, 0, 40, 0), -117);
        Due.is("17 strokes", x.deed(0, 1, 0, 0, 1, 20, 17, 4), 9);
        Due.is("17 strokes", x.deed(0, 1, 0, 0, 1, 20, 17, 3), 0);
        Due.is("none wrong", x.deed(0, 1, 0, 0, 1, 20, 17, 1), SkateBonds.NONE);
        Due.is("first by the heavy one", x.deed(1, 0, 0, 0, 1, 0, 40, 1), 16);
        Due.is("both of load 2", x.deed(1, 2, 0, 0, 1, 0, 40, 1), 16);
        Due.is("a cell from 0 on", x.deed(0, 1, 0, 0, 1, 1, 1, 1), 0);
    }

    private static void deedOverTheEdges() {
        Due.part("promise 7, edges");
        SkateBonds x = Canals.on("c330;999;999;999,s1,s1");
        Canals.row(x, 0, 2, 0, 1, 2, 3);
        int[][] next = {
            {-100, 1, 3, -100}, {-100, 2, 4, 0}, {-100, -100, 5, 1},
            {0, 4, 6, -100}, {1, 5, 7, 3}, {2, -100, 8, 4},
            {3, 7, -100, -100}, {4, 8, -100, 6}, {5, -100, -100, 7},
        };
        for (int c = 0; c < 9; c++) {
            for (int stroke = 0; stroke < 4; stroke++) {
                Due.is("from " + c + " by " + stroke, x.deed(0, 1, c, 0, 2, stroke, 1, 0), next[c][stroke]);
            }
        }
        x = Canals.on("c150;99999,s1,s1");
        Canals.row(x, 0, 2, 0, 1, 2, 3);
        Due.is("up from one row", x.deed(0, 1, 4, 0, 2, 0, 1, 0), -100);
        Due.is("down from one row", x.deed(0, 1, 0, 0, 2, 2, 1, 0), -100);
        Due.is("right at the end", x.deed(0, 1, 4, 0, 2, 1, 1, 0), -100);
        Due.is("left at the end", x.deed(0, 1, 4, 0, 2, 3, 1, 0), 3);
    }

    private static void deedOnAllOfTheIce() {
        Due.part("promises 7 and 8, 4 rows of 5");
        SkateBonds x = Canals.on("c450;99999;99999;99999;99995,s1,k1");
        Canals.row(x, 0, 2, 0, 1, 2, 3, 0);
        for (int c = 15; c < 20; c++) {
            Due.is("down from " + c, x.deed(0, 1, c, 0, 2, 2, 1, 0), -100);
            Due.is("up from " + c, x.deed(0, 1, c, 0, 2, 0, 1, 0), c - 5);
        }
        Due.is("to the last cell", x.deed(0, 1, 18, 0, 2, 1, 1, 3), 4);
        Due.is("to the last cell", x.deed(0, 1, 18, 0, 2, 1, 1, 2), Canals.set(19));
        Due.is("to the last cell", x.write(0, 1, 18, 0, 2, 1, 1), 1);
        Due.is("strength(19)", x.strength(19), 4);
        Canals.take(x, "c450;99999;99999;99999;99999,s1,k1");
        Canals.take(x, "c220;99;99,s1,k1");
        Due.is("no row is left of larger ice", x.deed(0, 1, 2, 0, 2, 2, 1, 0), -100);
        Due.is("no bond leads over it", x.neck(0, 1, 0, 3), SkateBonds.NONE);
        Due.is("none is alone on it", x.alone(0, 0), 15);
        Due.is("no night is on it", x.nights(1), 4);
        Canals.take(x, "c450;99999;99999;99999;99999,s1,k1");
        Canals.take(x, "c340;9999;9999;9999,s1,k1");
        for (int c = 0; c < 12; c++) {
            boolean isFirst = c % 4 == 0;
            boolean isLast = c % 4 == 3;
            Due.is("left from " + c, x.deed(0, 1, c, 0, 2, 3, 1, 0), isFirst ? -100 : c - 1);
            Due.is("right from " + c, x.deed(0, 1, c, 0, 2, 1, 1, 0), isLast ? -100 : c + 1);
        }
    }

    private static void deedWears() {
        Due.part("promise 7, CUT");
        SkateBonds x = Canals.on("c120;24,s2,s2");
        Canals.row(x, 0, 2, 1, 3, 1, 3);
        Due.is("down to 1", x.deed(0, 1, 0, 0, 2, 0, 3, 3), 2);
        Due.is("cell 0 is cut once", x.deed(0, 1, 0, 0, 2, 0, 2, 3), 1);
        Due.is("then it does not bear", x.deed(0, 1, 0, 0, 2, 0, 4, 0), -103);
        Due.is("where it begins nothing is cut", x.deed(0, 1, 0, 0, 2, 0, 1, 2), Canals.set(1));
        x.freeze(0, 0);
        Due.is("where it begins need not bear", x.deed(0, 1, 0, 0, 2, 0, 1, 0), 1);
    }

    private static void deedRefusals() {
        Due.part("promise 7, refusals");
        SkateBonds x = withDeed();
        int[][] unknown = {
            {0, 0, 3, 0}, {3, 0, 3, 0}, {0, 3, 3, 0}, {-1, 0, 3, 0}, {0, -1, 3, 0}, {0, 1, 12, 0}, {0, 1, -1, 0},
            {0, 1, 3, 4}, {0, 1, 3, -1}, {MIN, MAX, MIN, MAX},
        };
        for (int[] u : unknown) {
            Due.is("unknown", x.deed(u[0], u[1], u[2], u[3], 3, 99, 41, 5), SkateBonds.UNKNOWN);
            Due.is("unknown, what 0", x.deed(u[0], u[1], u[2], u[3], 3, 99, 41, 0), SkateBonds.UNKNOWN);
            Due.is("fault()", x.fault(), 0);
        }
        int[][] outside = {
            {0, 3, 1, 0}, {0, -1, 1, 0}, {0, 0, 41, 0}, {0, 0, -1, 0}, {0, 0, 1, 5}, {0, 0, 1, -1},
            {1, 3, 1, 0}, {1, 0, 41, 0}, {1, 0, 1, 5}, {0, 1, 1, 5}, {0, 1, 41, 0}, {0, 0, MAX, 0}, {0, 0, MIN, 0},
        };
        for (int[] o : outside) {
            Due.is("outside", x.deed(0, 1, 3, o[0], o[1], 99, o[2], o[3]), SkateBonds.OUTSIDE);
            Due.is("fault()", x.fault(), 0);
        }
        Due.is("9 is no stroke", x.deed(0, 1, 3, 0, 0, 0, 1, 0), SkateBonds.OUTSIDE);
        Due.is("fault()", x.fault(), 0);
        Due.is("4 is no stroke", x.deed(0, 1, 3, 0, 0, 9, 1, 1), SkateBonds.OUTSIDE);
        Due.is("-1 is no stroke", x.deed(0, 1, 3, 0, 0, 10, 1, 1), SkateBonds.OUTSIDE);
        Due.is("ahead of a first wrong", x.deed(0, 1, 3, 0, 0, 8, 2, 1), SkateBonds.OUTSIDE);
        Due.is("the first wrong", x.deed(0, 1, 3, 0, 0, 8, 1, 1), 0);
        Due.is("no stroke is taken", x.deed(0, 1, 3, 0, 0, 9, 0, 0), 3);
    }

    private static void deedFaults() {
        Due.part("promise 7, faults");
        SkateBonds x = withDeed();
        int[][] faults = {
            {0, 1, 99, 1, 2}, {0, 2, -1, 0, 2}, {1, 0, 99, 1, 1}, {1, 2, 0, 0, 1}, {0, 0, 11, 1, 3}, {0, 0, 12, 0, 3},
            {0, 0, -1, 0, 3}, {0, 0, -1, 1, 3}, {0, 0, 10, 2, 3}, {0, 0, MAX, 40, 3}, {0, 0, MIN, 40, 3},
        };
        for (int[] f : faults) {
            Due.is("sheet, lane, i, n", x.deed(0, 1, 3, f[0], f[1], f[2], f[3], 1), -10 - f[4]);
            Due.is("fault()", x.fault(), f[4]);
        }
        Due.is("what 5", x.deed(0, 1, 3, 0, 0, 1, 1, 5), SkateBonds.OUTSIDE);
        Due.is("fault()", x.fault(), 0);
        x.deed(0, 1, 3, 1, 0, 0, 0, 0);
        Due.is("what 5, no cell", x.deed(0, 1, 12, 0, 0, 1, 1, 5), SkateBonds.UNKNOWN);
        Due.is("fault()", x.fault(), 0);
        x.deed(0, 1, 3, 1, 0, 0, 0, 0);
        Due.is("at the end", x.deed(0, 1, 3, 0, 0, 11, 0, 0), 3);
        Due.is("fault()", x.fault(), 0);
        x.deed(0, 1, 3, 0, 1, 0, 1, 0);
        Due.is("a first wrong is no fault", x.deed(0, 1, 3, 0, 0, 8, 1, 0), -100);
        Due.is("fault()", x.fault(), 0);
    }

    private static void write() {
        Due.part("promise 8");
        SkateBonds x = withDeed();
        Due.is("a first wrong", x.write(0, 1, 3, 0, 0, 1, 7), -106);
        Due.is("nothing is changed", x.strength(2), 3);
        Due.is("6 strokes", x.write(0, 1, 3, 0, 0, 1, 6), 6);
        int[] strengths = {9, 1, 2, 5, 2, 8, 5, 2, 7, 1, 0, 7};
        for (int c = 0; c < strengths.length; c++) {
            Due.is("strength(" + c + ")", x.strength(c), strengths[c]);
        }
        Due.is("again", x.write(0, 1, 3, 0, 0, 1, 6), -100);
        Due.is("none", x.write(0, 1, 3, 0, 0, 1, 0), 0);
        Due.is("the frost stays", x.many(3), 2);
    }

    private static void writeRefusals() {
        Due.part("promise 8, refusals");
        SkateBonds x = withDeed();
        Due.is("one with themselves", x.write(0, 0, 3, 0, 3, 1, 1), SkateBonds.UNKNOWN);
        Due.is("no skater", x.write(0, 3, 3, 0, 0, 1, 1), SkateBonds.UNKNOWN);
        Due.is("no skater", x.write(-1, 0, 3, 0, 0, 1, 1), SkateBonds.UNKNOWN);
        Due.is("no cell", x.write(0, 1, 12, 0, 0, 1, 1), SkateBonds.UNKNOWN);
        Due.is("no cell", x.write(0, 1, -1, 0, 0, 1, 1), SkateBonds.UNKNOWN);
        Due.is("no sheet", x.write(0, 1, 3, 4, 3, 1, 1), SkateBonds.UNKNOWN);
        Due.is("lane", x.write(0, 1, 3, 0, 3, 99, 1), SkateBonds.OUTSIDE);
        Due.is("lane", x.write(0, 1, 3, 1, -1, 1, 1), SkateBonds.OUTSIDE);
        Due.is("n", x.write(0, 1, 3, 0, 0, 1, 41), SkateBonds.OUTSIDE);
        Due.is("n", x.write(0, 1, 3, 1, 0, 1, -1), SkateBonds.OUTSIDE);
        Due.is("no stroke", x.write(0, 1, 3, 0, 0, 8, 2), SkateBonds.OUTSIDE);
        Due.is("no stroke behind good ones", x.write(0, 1, 6, 0, 0, 8, 2), SkateBonds.OUTSIDE);
        Due.is("fault()", x.fault(), 0);
        Due.is("strength(2)", x.strength(2), 3);
    }

    private static void writeFaults() {
        Due.part("promise 8, faults");
        SkateBonds x = withDeed();
        int[][] faults = {
            {0, 1, 99, 1, 2}, {1, 0, 99, 1, 1}, {0, 0, 11, 1, 3}, {0, 2, -1, 0, 2}, {0, 0, 12, 0, 3}, {1, 2, 0, 0, 1},
            {0, 0, -1, 0, 3}, {0, 0, MAX, 40, 3},
        };
        for (int[] f : faults) {
            Due.is("sheet, lane, i, n", x.write(0, 1, 3, f[0], f[1], f[2], f[3]), -10 - f[4]);
            Due.is("fault()", x.fault(), f[4]);
        }
        Due.is("refused", x.write(0, 0, 3, 0, 0, 1, 1), SkateBonds.UNKNOWN);
        Due.is("fault()", x.fault(), 0);
        x.write(0, 1, 3, 1, 0, 0, 0);
        Due.is("a first wrong", x.write(0, 1, 3, 0, 0, 1, 7), -106);
        Due.is("fault()", x.fault(), 0);
        x.write(0, 1, 3, 1, 0, 0, 0);
        Due.is("done", x.write(0, 1, 3, 0, 0, 1, 6), 6);
        Due.is("fault()", x.fault(), 0);
    }

    private static void nights() {
        Due.part("promise 9");
        SkateBonds x = new SkateBonds();
        Due.is("outside ahead of state", x.nights(10), SkateBonds.OUTSIDE);
        Due.is("outside ahead of state", x.nights(-1), SkateBonds.OUTSIDE);
        Due.is("no canal", x.nights(0), SkateBonds.STATE);
        x = Canals.on(Canals.TEXT);
        Due.is("none", x.nights(0), 2);
        Due.is("nights(10)", x.nights(10), SkateBonds.OUTSIDE);
        Due.is("nights(-1)", x.nights(-1), SkateBonds.OUTSIDE);
        Due.is("two of 2", x.nights(2), 6);
        int[] strengths = {9, 5, 7, 9, 6, 9, 9, 8, 9, 5, 4, 9};
        for (int c = 0; c < strengths.length; c++) {
            Due.is("strength(" + c + ")", x.strength(c), strengths[c]);
        }
        x.frost(0);
        Due.is("of 0", x.nights(9), 6);
        x.frost(9);
        Due.is("of 9", x.nights(9), 12);
        Due.is("strength(10)", x.strength(10), 9);
    }

    private static void thaw() {
        Due.part("promise 10");
        SkateBonds x = new SkateBonds();
        Due.is("outside ahead of state", x.thaw(10), SkateBonds.OUTSIDE);
        Due.is("outside ahead of state", x.thaw(-1), SkateBonds.OUTSIDE);
        Due.is("no canal", x.thaw(0), SkateBonds.STATE);
        x = Canals.on(Canals.TEXT);
        Due.is("none", x.thaw(0), 1);
        Due.is("thaw(10)", x.thaw(10), SkateBonds.OUTSIDE);
        Due.is("thaw(-1)", x.thaw(-1), SkateBonds.OUTSIDE);
        Due.is("two", x.thaw(2), 4);
        int[] strengths = {7, 0, 1, 3, 0, 6, 4, 2, 5, 0, 0, 7};
        for (int c = 0; c < strengths.length; c++) {
            Due.is("strength(" + c + ")", x.strength(c), strengths[c]);
        }
        Due.is("six more", x.thaw(6), 10);
        Due.is("strength(0)", x.strength(0), 1);
        Due.is("nine more", x.thaw(9), 12);
        Due.is("a night heals", x.nights(1), 0);
        Due.is("strength(1)", x.strength(1), 2);
    }
}
