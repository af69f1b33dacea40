/** Promises 11 to 14 and 20: bonds, how long they hold, alone, necks, odds. */
public final class BondTest {
    private static final int MIN = Integer.MIN_VALUE;
    private static final int MAX = Integer.MAX_VALUE;
    /** Skaters and cells of which one at least is not there, or that are one with themselves. */
    private static final int[][] NOT_THERE = {
        {0, 0, 3, 6}, {3, 0, 3, 6}, {0, 3, 3, 6}, {-1, 0, 3, 6}, {0, -1, 3, 6}, {0, 1, 12, 6}, {0, 1, -1, 6},
        {0, 1, 3, 12}, {0, 1, 3, -1}, {MIN, MAX, 3, 6}, {0, 1, MIN, MAX}, {2, 2, 3, 3},
    };

    private BondTest() {
    }

    public static void main(String[] args) {
        bond();
        bondOfManyStrokes();
        bondIsInTurn();
        bondRefusals();
        holds();
        alone();
        neck();
        oddsAreShares();
        oddsOfWhatBreaks();
        oddsRefusals();
        Due.end();
    }

    private static void row(SkateBonds x, int a, int b, int from, int to, int... strokes) {
        String what = "bond(" + a + ", " + b + ", " + from + ", " + to + ")";
        Due.is(what, x.bond(a, b, from, to, -1), strokes.length);
        for (int k = 0; k < 40; k++) {
            Due.is(what + " stroke " + k, x.bond(a, b, from, to, k), k < strokes.length ? strokes[k] : -9);
        }
    }

    private static void none(SkateBonds x, int a, int b, int from, int to) {
        String what = "bond(" + a + ", " + b + ", " + from + ", " + to + ")";
        for (int k = -1; k < 40; k += 5) {
            Due.is(what + " stroke " + k, x.bond(a, b, from, to, k), SkateBonds.NONE);
        }
    }

    private static void bond() {
        Due.part("promise 11");
        SkateBonds x = Canals.on(Canals.TEXT);
        row(x, 0, 1, 3, 11, 2, 2);
        row(x, 0, 1, 3, 6, 2, 3);
        row(x, 0, 1, 3, 5, 2, 3, 3);
        row(x, 0, 2, 3, 2, 3);
        row(x, 0, 1, 10, 10);
        none(x, 0, 1, 3, 0);
        none(x, 0, 1, 3, 10);
        none(x, 1, 0, 3, 6);
        x = Canals.on(Canals.TEXT);
        x.bond(0, 1, 3, 11, -1);
        Due.is("nothing is cut", x.strength(7), 4);
        x.freeze(7, 2);
        row(x, 0, 1, 3, 6, 3, 2);
        none(x, 0, 1, 3, 11);
        x = Canals.on("c330;999;999;999,s1,s1");
        row(x, 0, 1, 0, 8, 1, 1, 2, 2);
        row(x, 0, 1, 8, 0, 0, 0, 3, 3);
        row(x, 0, 1, 6, 2, 0, 0, 1, 1);
        row(x, 0, 1, 2, 6, 2, 2, 3, 3);
    }

    private static void bondOfManyStrokes() {
        Due.part("promise 11, a long one");
        SkateBonds x = Canals.on(Canals.WINDING);
        row(x, 0, 1, 0, 15, 1, 1, 1, 1, 2, 2, 3, 3, 3, 3, 2);
        row(x, 0, 1, 15, 0, 0, 1, 1, 1, 1, 0, 0, 3, 3, 3, 3);
        row(x, 0, 1, 5, 15, 2, 2);
        row(x, 0, 1, 5, 4, 0, 1, 1, 1, 1);
        x = Canals.on("c450;90999;90909;90909;99909,s1,s1");
        row(x, 0, 1, 0, 19, 2, 2, 2, 1, 1, 0, 0, 0, 1, 1, 2, 2, 2);
    }

    private static void bondIsInTurn() {
        Due.part("promise 11, in turn");
        // What bears the heavy one (load 9) bears the other one (load 2), too; cells 1 and 3 bear the light one alone.
        SkateBonds x = Canals.on("c150;92929,s2,s9");
        row(x, 0, 1, 0, 4, 1, 1, 1, 1);
        none(x, 1, 0, 0, 4);
        row(x, 1, 0, 1, 4, 1, 1, 1);
        none(x, 0, 1, 1, 4);
        // The heavy one comes to cell 1 first, so that the way leads round by 3, 4, 5.
        x = Canals.on("c230;929;999,s2,s9");
        row(x, 1, 0, 0, 2, 2, 1, 1, 0);
        none(x, 1, 0, 0, 1);
        row(x, 0, 1, 0, 2, 1, 1);
    }

    private static void bondRefusals() {
        Due.part("promise 11, refusals");
        SkateBonds x = Canals.on(Canals.TEXT);
        for (int[] u : NOT_THERE) {
            Due.is("unknown", x.bond(u[0], u[1], u[2], u[3], -1), SkateBonds.UNKNOWN);
            Due.is("unknown ahead of outside", x.bond(u[0], u[1], u[2], u[3], 40), SkateBonds.UNKNOWN);
        }
        Due.is("k 40", x.bond(0, 1, 3, 6, 40), SkateBonds.OUTSIDE);
        Due.is("k -2", x.bond(0, 1, 3, 6, -2), SkateBonds.OUTSIDE);
        Due.is("k max", x.bond(0, 1, 3, 0, MAX), SkateBonds.OUTSIDE);
        Due.is("k min", x.bond(0, 1, 3, 3, MIN), SkateBonds.OUTSIDE);
    }

    private static void holds() {
        Due.part("promise 12");
        SkateBonds x = Canals.on(Canals.TEXT);
        Due.is("by cell 7 longer than by 2", x.holds(0, 1, 3, 11), 1);
        Due.is("no day", x.holds(0, 1, 3, 6), 0);
        Due.is("none now", x.holds(0, 1, 3, 0), SkateBonds.NONE);
        Due.is("to itself", x.holds(0, 1, 10, 10), 9);
        Due.is("nothing is changed", x.strength(7), 4);
        for (int[] u : NOT_THERE) {
            Due.is("unknown", x.holds(u[0], u[1], u[2], u[3]), SkateBonds.UNKNOWN);
        }
        x = Canals.on(Canals.WINDING);
        Due.is("load 1 on 9", x.holds(0, 1, 0, 15), 8);
        x.freeze(9, 5);
        Due.is("the least cell", x.holds(0, 1, 0, 15), 4);
        x.thaw(2);
        Due.is("behind two days", x.holds(0, 1, 0, 15), 2);
    }

    private static void alone() {
        Due.part("promise 13");
        SkateBonds x = Canals.on(Canals.TEXT);
        Due.is("alone(0, 3)", x.alone(0, 3), Canals.set(2, 3, 5, 6, 7, 11));
        Due.is("from what does not bear", x.alone(0, 10), Canals.set(2, 3, 5, 6, 7, 10, 11));
        Due.is("alone(1, 3)", x.alone(1, 3), Canals.set(3));
        Due.is("alone(2, 10)", x.alone(2, 10), Canals.set(5, 6, 10, 11));
        Due.is("no skater", x.alone(3, 0), SkateBonds.UNKNOWN);
        Due.is("no skater", x.alone(-1, 0), SkateBonds.UNKNOWN);
        Due.is("no cell", x.alone(0, 12), SkateBonds.UNKNOWN);
        Due.is("no cell", x.alone(0, -1), SkateBonds.UNKNOWN);
        x = Canals.on(Canals.WINDING);
        Due.is("all of the way", x.alone(0, 15), Canals.set(0, 1, 2, 3, 4, 9, 10, 11, 12, 13, 14, 15));
        x = Canals.on("c450;99999;00009;99999;90000,s1,k1");
        x.freeze(12, 1);
        Due.is("the heavy one stops", x.alone(1, 0), Canals.set(0, 1, 2, 3, 4, 9, 13, 14));
    }

    private static void neck() {
        Due.part("promise 14");
        SkateBonds x = Canals.on(Canals.TEXT);
        Due.is("by 6 alone", x.neck(0, 1, 3, 5), 6);
        Due.is("by 2 or 7", x.neck(0, 1, 3, 6), SkateBonds.NONE);
        Due.is("by 7 at last", x.neck(0, 1, 3, 11), 7);
        Due.is("one stroke", x.neck(0, 1, 3, 7), SkateBonds.NONE);
        Due.is("no stroke", x.neck(0, 1, 3, 3), SkateBonds.NONE);
        Due.is("no bond", x.neck(0, 1, 3, 0), SkateBonds.NONE);
        for (int[] u : NOT_THERE) {
            Due.is("unknown", x.neck(u[0], u[1], u[2], u[3]), SkateBonds.UNKNOWN);
        }
        x = Canals.on(Canals.WINDING);
        Due.is("the least of many", x.neck(0, 1, 0, 15), 1);
        Due.is("the least, not the nearest", x.neck(0, 1, 15, 4), 9);
        Due.is("cell 0 can be one", x.neck(0, 1, 1, 0), SkateBonds.NONE);
        x = Canals.on("c230;999;909,s1,s1");
        Due.is("by 0", x.neck(0, 1, 3, 1), 0);
        Due.is("by 0, 1, 2", x.neck(0, 1, 5, 3), 0);
    }

    private static void share(SkateBonds x, int from, int to, int set, int upper, int lower) {
        String what = "odds of " + from + ", " + to + ", set " + set;
        Due.is(what + ", upper", x.odds(0, 1, from, to, set, 0), upper);
        Due.is(what + ", lower", x.odds(0, 1, from, to, set, 1), lower);
    }

    private static void oddsAreShares() {
        Due.part("promise 20");
        SkateBonds x = Canals.on(Canals.TEXT);
        share(x, 3, 6, 0, 1, 1);
        share(x, 3, 6, Canals.set(2, 7), 3, 4);
        share(x, 3, 6, Canals.set(2), 1, 1);
        share(x, 3, 6, Canals.set(2, 6, 7), 3, 8);
        share(x, 3, 6, Canals.set(0, 1), 1, 1);
        share(x, 3, 6, 255, 3, 8);
        share(x, 3, 0, Canals.set(1, 2), 0, 1);
        share(x, 3, 0, 0, 0, 1);
        share(x, 3, 11, Canals.set(7, 11), 1, 4);
        x = Canals.on(Canals.WINDING);
        share(x, 0, 15, Canals.set(1, 2, 3, 4, 9, 14, 13, 12), 1, 256);
        share(x, 0, 15, Canals.set(12, 13, 14, 15, 16, 17, 18, 19), 1, 16);
        share(x, 0, 4, Canals.set(5, 6, 7, 8, 16, 17, 18, 19), 1, 1);
        share(x, 0, 16, Canals.set(5, 6, 7, 8, 16, 17, 18, 19), 0, 1);
        x.freeze(10, 0);
        share(x, 5, 4, 0, 1, 1);
        share(x, 5, 4, Canals.set(1, 2), 1, 4);
    }

    private static void oddsOfWhatBreaks() {
        Due.part("promise 20, first and last");
        SkateBonds x = Canals.on(Canals.TEXT);
        share(x, 3, 6, Canals.set(6), 1, 2);
        share(x, 3, 6, Canals.set(3), 1, 1);
        share(x, 3, 3, Canals.set(3), 1, 1);
        Due.is("by who begins", x.odds(1, 0, 3, 6, Canals.set(2), 0), 0);
        Due.is("nothing is changed", x.strength(6), 6);
    }

    private static void oddsRefusals() {
        Due.part("promise 20, refusals");
        SkateBonds x = Canals.on(Canals.TEXT);
        for (int[] u : NOT_THERE) {
            Due.is("unknown", x.odds(u[0], u[1], u[2], u[3], 0, 0), SkateBonds.LOST);
        }
        Due.is("nine cells", x.odds(0, 1, 3, 6, 511, 0), SkateBonds.LOST);
        Due.is("no cell 12", x.odds(0, 1, 3, 6, Canals.set(12), 0), SkateBonds.LOST);
        Due.is("cell 11", x.odds(0, 1, 3, 6, Canals.set(11), 0), 1);
        Due.is("set -1", x.odds(0, 1, 3, 6, -1, 0), SkateBonds.LOST);
        Due.is("set min", x.odds(0, 1, 3, 6, MIN, 0), SkateBonds.LOST);
        Due.is("which 2", x.odds(0, 1, 3, 6, 0, 2), SkateBonds.LOST);
        Due.is("which -1", x.odds(0, 1, 3, 6, 0, -1), SkateBonds.LOST);
    }
}
