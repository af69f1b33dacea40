/** The edges of odds (==== 4 and promise 20). */
public final class OddsEdgesTest {
    private static final int MIN = Integer.MIN_VALUE;
    private static final int MAX = Integer.MAX_VALUE;
    private static final String OPEN = "c450;99999;99999;99999;99999,s1,s1";
    /** Two ways from cell 0 to cell 8: by 1, 2, 5 and by 3, 6, 7. */
    private static final String RING = "c330;999;909;999,s1,s1";

    private OddsEdgesTest() {
    }

    public static void main(String[] args) {
        noCells();
        oneCell();
        eightCells();
        nineCells();
        cellsThatThereAre();
        firstBreaks();
        lastBreaks();
        toItself();
        leastTerms();
        noBond();
        alreadyWeak();
        inTurn();
        whichNumbers();
        refusals();
        refusedForSeveral();
        changesNothing();
        Due.end();
    }

    private static void share(SkateBonds x, int a, int b, int from, int to, int set, int upper, int lower) {
        Due.is(Calls.told("odds", a, b, from, to, set, 0), x.odds(a, b, from, to, set, 0), upper);
        Due.is(Calls.told("odds", a, b, from, to, set, 1), x.odds(a, b, from, to, set, 1), lower);
    }

    private static void noCells() {
        Due.part("==== 4: a set of CELLS, none");
        share(Canals.on(OPEN), 0, 1, 0, 19, 0, 1, 1);
        share(Canals.on(OPEN), 1, 0, 19, 0, 0, 1, 1);
        share(Canals.on("c130;909,s1,s1"), 0, 1, 0, 2, 0, 0, 1);
    }

    private static void oneCell() {
        Due.part("==== 4: if each of them breaks, or does not: one");
        SkateBonds x = Canals.on("c150;99999,s1,s1");
        for (int c = 0; c < 5; c++) {
            boolean isOn = c >= 1 && c <= 3;
            share(x, 0, 1, 0, 3, 1 << c, 1, isOn ? 2 : 1);
        }
    }

    private static void eightCells() {
        Due.part("==== 4: a set of CELLS (8 at most), 8");
        SkateBonds x = Canals.on("c450;99999;00009;99999;90000,s1,s1");
        share(x, 0, 1, 0, 15, Canals.set(1, 2, 3, 4, 9, 14, 13, 12), 1, 256);
        share(x, 0, 1, 0, 15, Canals.set(1, 2, 3, 4, 9, 14, 13, 15), 1, 256);
        share(x, 0, 1, 0, 15, Canals.set(0, 2, 3, 4, 9, 14, 13, 12), 1, 128);
        share(x, 0, 1, 0, 15, Canals.set(5, 6, 7, 8, 16, 17, 18, 19), 1, 1);
        SkateBonds y = Canals.on(RING);
        share(y, 0, 1, 0, 8, Canals.set(0, 1, 2, 3, 5, 6, 7, 8), 15, 128);
        share(y, 0, 1, 0, 8, Canals.set(0, 1, 2, 3, 4, 5, 6, 7), 15, 64);
    }

    private static void nineCells() {
        Due.part("promise 20, OUTSIDE: a set of 8 at most, 9");
        SkateBonds x = Canals.on(OPEN);
        for (int first = 0; first < 12; first++) {
            int eight = 255 << first;
            int nine = 511 << first;
            Due.holds("8 of them from " + first + " on", x.odds(0, 1, 0, 19, eight, 1) > 0);
            Due.is("9 of them from " + first + " on", x.odds(0, 1, 0, 19, nine, 1), SkateBonds.LOST);
        }
        Due.is("all 20", x.odds(0, 1, 0, 19, (1 << 20) - 1, 0), SkateBonds.LOST);
        Due.is("8 here and there", x.odds(0, 1, 0, 1, Canals.set(0, 4, 7, 9, 12, 14, 17, 19), 0), 1);
        Due.is("9 here and there", x.odds(0, 1, 0, 1, Canals.set(0, 2, 4, 7, 9, 12, 14, 17, 19), 0), SkateBonds.LOST);
    }

    private static void cellsThatThereAre() {
        Due.part("promise 20, OUTSIDE: a set of CELLS that there are");
        for (int high = 1; high <= 4; high++) {
            for (int wide = 2; wide <= 5; wide++) {
                SkateBonds x = Canals.on("c" + high + wide + "0" + ";99999".substring(0, wide + 1).repeat(high) + ",s1,s1");
                int cells = high * wide;
                for (int c = 0; c < 32; c++) {
                    long want = c >= cells ? SkateBonds.LOST : c == 1 ? 2 : 1;
                    Due.is("set of " + c + " alone of " + cells, x.odds(0, 1, 0, 1, 1 << c, 1), want);
                }
                Due.is("one too many", x.odds(0, 1, 0, 1, 1 | 1 << cells, 1), SkateBonds.LOST);
                Due.is("below 0", x.odds(0, 1, 0, 1, -1, 1), SkateBonds.LOST);
                Due.is("MIN", x.odds(0, 1, 0, 1, MIN, 1), SkateBonds.LOST);
                Due.is("MAX", x.odds(0, 1, 0, 1, MAX, 1), SkateBonds.LOST);
            }
        }
    }

    private static void firstBreaks() {
        Due.part("==== 4: it BEARS nobody: the first CELL need not");
        SkateBonds x = Canals.on("c150;99999,s1,s1");
        for (int to = 0; to < 5; to++) {
            share(x, 0, 1, 0, to, Canals.set(0), 1, 1);
        }
        share(x, 0, 1, 2, 4, Canals.set(2), 1, 1);
        share(x, 0, 1, 2, 4, Canals.set(2, 3), 1, 2);
    }

    private static void lastBreaks() {
        Due.part("==== 4: it BEARS nobody: the last CELL must");
        SkateBonds x = Canals.on(OPEN);
        for (int to = 1; to < 20; to++) {
            share(x, 0, 1, 0, to, 1 << to, 1, 2);
        }
    }

    private static void toItself() {
        Due.part("==== 4: ODDS, from a CELL to itself");
        SkateBonds x = Canals.on("c240;0000;0000,b9,b9");
        for (int c = 0; c < 8; c++) {
            share(x, 0, 1, c, c, 255, 1, 1);
            share(x, 1, 0, c, c, 1 << c, 1, 1);
        }
    }

    private static void leastTerms() {
        Due.part("Terms: shares are told as upper and lower number (above 0) in least terms");
        SkateBonds x = Canals.on(RING);
        share(x, 0, 1, 0, 8, Canals.set(1, 3), 3, 4);
        share(x, 0, 1, 0, 8, Canals.set(1, 2, 3), 5, 8);
        share(x, 0, 1, 0, 8, Canals.set(1, 2, 3, 6), 7, 16);
        share(x, 0, 1, 0, 8, Canals.set(1, 2, 5, 3), 9, 16);
        share(x, 0, 1, 0, 8, Canals.set(1, 2, 5, 3, 6), 11, 32);
        share(x, 0, 1, 0, 8, Canals.set(1, 2, 5, 3, 6, 7), 15, 64);
        share(x, 0, 1, 0, 8, Canals.set(1, 3, 8), 3, 8);
        share(x, 0, 1, 0, 8, Canals.set(1, 3, 0, 4), 3, 4);
        share(x, 0, 1, 0, 8, Canals.set(1, 2, 5), 1, 1);
        share(x, 0, 1, 0, 8, Canals.set(1, 2, 5, 8), 1, 2);
        SkateBonds y = Canals.on("c230;999;999,s1,s1");
        share(y, 0, 1, 0, 5, Canals.set(1, 2, 3, 4), 1, 2);
        share(y, 0, 1, 0, 5, Canals.set(1, 2, 3, 4, 5), 1, 4);
    }

    private static void noBond() {
        Due.part("Terms: a share of none: 0 and 1");
        SkateBonds x = Canals.on("c430;909;909;909;909,s1,s1");
        share(x, 0, 1, 0, 2, 0, 0, 1);
        share(x, 0, 1, 0, 2, Canals.set(0), 0, 1);
        share(x, 0, 1, 0, 2, Canals.set(1, 2), 0, 1);
        share(x, 0, 1, 0, 2, 255, 0, 1);
        share(x, 0, 1, 0, 11, 255 << 4, 0, 1);
    }

    private static void alreadyWeak() {
        Due.part("==== 4: what bears nobody already breaks or does not as well");
        SkateBonds x = Canals.on(RING);
        share(x, 0, 1, 0, 8, Canals.set(4), 1, 1);
        share(x, 0, 1, 0, 8, Canals.set(4, 1, 3), 3, 4);
        x.freeze(1, 0);
        share(x, 0, 1, 0, 8, Canals.set(1, 3), 1, 2);
        share(x, 0, 1, 0, 8, Canals.set(1, 2, 5), 1, 1);
    }

    private static void inTurn() {
        Due.part("==== 4: ODDS of a BOND, in turn");
        SkateBonds x = Canals.on("c230;999;292,s2,s9");
        share(x, 0, 1, 0, 4, Canals.set(1), 1, 1);
        share(x, 0, 1, 0, 4, Canals.set(1, 3), 3, 4);
        share(x, 1, 0, 0, 4, Canals.set(1), 1, 2);
        share(x, 1, 0, 0, 4, Canals.set(3), 1, 1);
        share(x, 1, 0, 0, 3, Canals.set(1), 0, 1);
    }

    private static void whichNumbers() {
        Due.part("promise 20: which 0 the upper, 1 the lower number");
        SkateBonds x = Canals.on(RING);
        Due.is("which 0", x.odds(0, 1, 0, 8, Canals.set(1, 3), 0), 3);
        Due.is("which 1", x.odds(0, 1, 0, 8, Canals.set(1, 3), 1), 4);
        for (int which : new int[] {-1, 2, 3, MIN, MAX}) {
            Due.is("which " + which, x.odds(0, 1, 0, 8, Canals.set(1, 3), which), SkateBonds.LOST);
        }
    }

    private static void refusals() {
        Due.part("promise 20, LOST: UNKNOWN; OUTSIDE");
        for (int which = 0; which <= 1; which++) {
            Fresh.FULL.unknown("odds", SkateBonds.LOST, 0, 3, 0, 1, 3, 6, 4, which);
            Fresh.FULL.unknown("odds", SkateBonds.LOST, 1, 3, 0, 1, 3, 6, 4, which);
            Fresh.FULL.unknown("odds", SkateBonds.LOST, 2, 12, 0, 1, 3, 6, 4, which);
            Fresh.FULL.unknown("odds", SkateBonds.LOST, 3, 12, 0, 1, 3, 6, 4, which);
            Fresh.FULL.changesNothing("odds", SkateBonds.LOST, 0, 1, 3, 6, 511, which);
            Fresh.FULL.changesNothing("odds", SkateBonds.LOST, 0, 1, 3, 6, 1 << 12, which);
            Fresh.FULL.changesNothing("odds", SkateBonds.LOST, 0, 1, 3, 6, MIN, which);
            for (int a = 0; a <= 2; a++) {
                Fresh.FULL.changesNothing("odds", SkateBonds.LOST, a, a, 3, 6, 4, which);
            }
            Fresh.NEW.changesNothing("odds", SkateBonds.LOST, 0, 1, 0, 0, 0, which);
        }
        Fresh.FULL.unknown("odds", SkateBonds.LOST, 5, 2, 0, 1, 3, 6, 4, 0);
    }

    private static void refusedForSeveral() {
        Due.part("promise 20, LOST whatever the reasons");
        Fresh.FULL.changesNothing("odds", SkateBonds.LOST, 0, 0, 3, 6, 511, 2);
        Fresh.FULL.changesNothing("odds", SkateBonds.LOST, 3, -1, 12, -1, -1, -1);
        Fresh.FULL.changesNothing("odds", SkateBonds.LOST, 0, 1, 3, 6, 1 << 12, 2);
        Fresh.NEW.changesNothing("odds", SkateBonds.LOST, 0, 1, 0, 0, 1, 2);
    }

    private static void changesNothing() {
        Due.part("promise 20: what is asked alone changes nothing");
        Fresh.FULL.changesNothing("odds", 3, 0, 1, 3, 6, Canals.set(2, 7), 0);
        Fresh.FULL.changesNothing("odds", 4, 0, 1, 3, 6, Canals.set(2, 7), 1);
        Fresh.FULL.changesNothing("odds", 3, 0, 1, 3, 6, 255, 0);
        Fresh.FULL.changesNothing("odds", 1, 0, 1, 3, 6, Canals.set(11), 0);
    }
}
