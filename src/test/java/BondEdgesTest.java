/** The edges of bonds (==== 3 and promises 11 to 14). */
public final class BondEdgesTest {
    private static final int MIN = Integer.MIN_VALUE;
    private static final int MAX = Integer.MAX_VALUE;
    private static final String OPEN = "c450;99999;99999;99999;99999,s1,s1";
    /** 13 STROKES from cell 0 to cell 19: no bond on the largest canal is longer. */
    private static final String LONGEST = "c450;90999;90909;90909;99909,s1,s1";

    private BondEdgesTest() {
    }

    public static void main(String[] args) {
        noStrokes();
        oneStroke();
        numbersOfStrokes();
        longest();
        firstAsARow();
        firstAsARowRoundAHole();
        inTurn();
        bearsTheLast();
        needNotBearTheFirst();
        asIfNothingWereCut();
        bondUnknown();
        bondOutside();
        bondChangesNothing();
        holdsDays();
        holdsItself();
        holdsByAnotherRow();
        holdsOfTheHeavier();
        holdsRefusals();
        aloneThatCell();
        aloneAll();
        aloneOverNoEdge();
        aloneOfOne();
        aloneRefusals();
        neckLeast();
        neckNeitherFirstNorLast();
        neckNone();
        neckHighest();
        neckInTurn();
        neckRefusals();
        Due.end();
    }

    private static void bond(SkateBonds x, int a, int b, int from, int to, String strokes) {
        String told = "bond(" + a + ", " + b + ", " + from + ", " + to;
        Due.is(told + ", -1)", x.bond(a, b, from, to, -1), strokes.length());
        for (int k = 0; k < strokes.length(); k++) {
            Due.is(told + ", " + k + ")", x.bond(a, b, from, to, k), strokes.charAt(k) - '0');
        }
        for (int k : new int[] {strokes.length(), 39}) {
            Due.is(told + ", " + k + ")", x.bond(a, b, from, to, k), SkateBonds.NONE);
        }
    }

    private static void none(SkateBonds x, int a, int b, int from, int to) {
        for (int k : new int[] {-1, 0, 1, 39}) {
            Due.is(Calls.told("bond", a, b, from, to, k), x.bond(a, b, from, to, k), SkateBonds.NONE);
        }
        Due.is(Calls.told("holds", a, b, from, to), x.holds(a, b, from, to), SkateBonds.NONE);
        Due.is(Calls.told("neck", a, b, from, to), x.neck(a, b, from, to), SkateBonds.NONE);
        Due.is(Calls.told("odds", a, b, from, to, 0, 0), x.odds(a, b, from, to, 0, 0), 0);
        Due.is(Calls.told("odds", a, b, from, to, 0, 1), x.odds(a, b, from, to, 0, 1), 1);
    }

    private static void noStrokes() {
        Due.part("==== 3: 0 STROKES from a CELL to itself");
        for (String text : new String[] {OPEN, "c450;00000;00000;00000;00000,b9,b9", "c120;01,s1,k1"}) {
            SkateBonds x = Canals.on(text);
            for (int c = 0; c < x.many(1); c++) {
                bond(x, 0, 1, c, c, "");
                bond(x, 1, 0, c, c, "");
            }
        }
    }

    private static void oneStroke() {
        Due.part("==== 3: one STROKE, by the first of them");
        for (int load = 1; load <= 9; load++) {
            SkateBonds x = Canals.on("c120;0" + load + ",s" + load + ",b9");
            bond(x, 0, 1, 0, 1, "1");
            none(x, 1, 0, 0, 1);
            none(x, 0, 1, 1, 0);
            x.freeze(1, load - 1);
            none(x, 0, 1, 0, 1);
        }
        SkateBonds x = Canals.on("c220;99;99,s1,s1");
        bond(x, 0, 1, 3, 1, "0");
        bond(x, 0, 1, 2, 3, "1");
        bond(x, 0, 1, 0, 2, "2");
        bond(x, 0, 1, 3, 2, "3");
    }

    private static void numbersOfStrokes() {
        Due.part("promise 11: how many STROKES (k -1), STROKE k (0 .. 39); NONE: there are fewer");
        SkateBonds x = Canals.on(LONGEST);
        String strokes = "2221100011222";
        for (int k = -1; k <= 39; k++) {
            int want = k == -1 ? 13 : k < 13 ? strokes.charAt(k) - '0' : SkateBonds.NONE;
            Due.is("k " + k, x.bond(0, 1, 0, 19, k), want);
        }
        for (int k : new int[] {-2, 40, MIN, MAX}) {
            Due.is("k " + k, x.bond(0, 1, 0, 19, k), SkateBonds.OUTSIDE);
            Due.is("k " + k + " to itself", x.bond(0, 1, 0, 0, k), SkateBonds.OUTSIDE);
            Due.is("k " + k + " of none", x.bond(0, 1, 0, 1, k), SkateBonds.OUTSIDE);
        }
    }

    private static void longest() {
        Due.part("==== 3: the longest");
        SkateBonds x = Canals.on(LONGEST);
        bond(x, 0, 1, 0, 19, "2221100011222");
        bond(x, 1, 0, 19, 0, "0003322233000");
        Due.is("it holds", x.holds(0, 1, 0, 19), 8);
        Due.is("its neck", x.neck(0, 1, 0, 19), 2);
        for (int c : new int[] {5, 10, 15, 16, 17, 12, 7, 2, 3, 4, 9, 14}) {
            x.freeze(c, 0);
            none(x, 0, 1, 0, 19);
            x.freeze(c, 9);
        }
    }

    /** On open ice the shortest rows are those of all orders of the same strokes: the first is the one in order. */
    private static void firstAsARow() {
        Due.part("==== 3: of several the first as a row");
        for (int from = 0; from < 20; from++) {
            SkateBonds x = Canals.on(OPEN);
            SkateBonds y = Canals.on(OPEN);
            for (int to = 0; to < 20; to++) {
                int down = to / 5 - from / 5;
                int right = to % 5 - from % 5;
                String strokes = "0".repeat(Math.max(0, -down)) + "1".repeat(Math.max(0, right))
                    + "2".repeat(Math.max(0, down)) + "3".repeat(Math.max(0, -right));
                bond(x, 0, 1, from, to, strokes);
                Due.is("the other first", y.bond(1, 0, from, to, -1), strokes.length());
            }
        }
    }

    private static void firstAsARowRoundAHole() {
        Due.part("==== 3: the shortest, of several the first as a row, round what does not BEAR");
        SkateBonds x = Canals.on("c330;999;909;999,s1,s1");
        bond(x, 0, 1, 3, 5, "0112");
        bond(x, 0, 1, 5, 3, "0332");
        bond(x, 0, 1, 1, 7, "1223");
        bond(x, 0, 1, 7, 1, "1003");
        x.freeze(1, 0);
        bond(x, 0, 1, 3, 5, "2110");
        bond(x, 0, 1, 0, 2, "221100");
        x = Canals.on("c340;9999;9009;9999,s1,s1");
        bond(x, 0, 1, 4, 7, "01112");
        bond(x, 0, 1, 4, 11, "2111");
        bond(x, 0, 1, 0, 11, "11122");
    }

    private static void inTurn() {
        Due.part("==== 3: in turn");
        // From cell 0 the first of them comes to 1, 3, 5; the second one to 2, 4.
        SkateBonds x = Canals.on("c230;929;292,s2,s9");
        bond(x, 0, 1, 0, 2, "11");
        bond(x, 0, 1, 0, 4, "12");
        bond(x, 0, 1, 0, 5, "112");
        none(x, 1, 0, 0, 1);
        none(x, 1, 0, 0, 3);
        none(x, 1, 0, 0, 2);
        // From cell 1 the second one of them comes to 1, 3, 5.
        bond(x, 1, 0, 1, 2, "1");
        bond(x, 1, 0, 1, 5, "12");
        none(x, 0, 1, 1, 5);
        // A row of an even number of STROKES between two cells is never one of an odd number.
        SkateBonds y = Canals.on("c230;990;999,s1,b1");
        bond(y, 0, 1, 0, 4, "12");
        bond(y, 1, 0, 0, 4, "12");
    }

    private static void bearsTheLast() {
        Due.part("==== 3: the last CELL must BEAR who makes the last STROKE");
        SkateBonds x = Canals.on("c150;99999,s1,s9");
        for (int to = 1; to < 5; to++) {
            x.freeze(to, 1);
            if (to % 2 == 1) {
                bond(x, 0, 1, 0, to, "1".repeat(to));
            } else {
                none(x, 0, 1, 0, to);
            }
            x.freeze(to, 9);
            bond(x, 0, 1, 0, to, "1".repeat(to));
        }
    }

    private static void needNotBearTheFirst() {
        Due.part("==== 3: from a CELL on, be it as weak as it may");
        SkateBonds x = Canals.on("c230;099;999,s9,s9");
        bond(x, 0, 1, 0, 5, "112");
        none(x, 0, 1, 5, 0);
        // A row that leads over the first cell is never the shortest.
        bond(x, 0, 1, 1, 3, "23");
    }

    private static void asIfNothingWereCut() {
        Due.part("==== 3: as if nothing were CUT");
        SkateBonds x = Canals.on("c450;11111;11111;11111;11111,s1,s1");
        for (int again = 0; again < 3; again++) {
            bond(x, 0, 1, 0, 19, "1111222");
            bond(x, 1, 0, 19, 0, "0003333");
        }
        for (int c = 0; c < 20; c++) {
            Due.is("strength(" + c + ")", x.strength(c), 1);
        }
        Canals.row(x, 0, 2, 1, 1);
        Due.is("what is written is cut", x.write(0, 1, 0, 0, 2, 0, 2), 2);
        bond(x, 0, 1, 0, 19, "2111122");
    }

    private static void bondUnknown() {
        Due.part("promise 11, UNKNOWN: SKATERS, one with themselves, CELLS");
        for (int k : new int[] {-1, 0, 39, 40, -2}) {
            Fresh.FULL.unknown("bond", SkateBonds.UNKNOWN, 0, 3, 0, 1, 3, 6, k);
            Fresh.FULL.unknown("bond", SkateBonds.UNKNOWN, 1, 3, 0, 1, 3, 6, k);
            Fresh.FULL.unknown("bond", SkateBonds.UNKNOWN, 2, 12, 0, 1, 3, 6, k);
            Fresh.FULL.unknown("bond", SkateBonds.UNKNOWN, 3, 12, 0, 1, 3, 6, k);
            Fresh.NEW.changesNothing("bond", SkateBonds.UNKNOWN, 0, 1, 0, 0, k);
        }
        for (int a = 0; a <= 2; a++) {
            Fresh.FULL.changesNothing("bond", SkateBonds.UNKNOWN, a, a, 3, 6, -1);
            Fresh.FULL.changesNothing("bond", SkateBonds.UNKNOWN, a, a, 3, 3, 40);
        }
    }

    private static void bondOutside() {
        Due.part("promise 11, OUTSIDE: k");
        for (int k : new int[] {-2, 40, 41, MIN, MAX}) {
            Fresh.FULL.changesNothing("bond", SkateBonds.OUTSIDE, 0, 1, 3, 6, k);
            Fresh.FULL.changesNothing("bond", SkateBonds.OUTSIDE, 0, 1, 3, 3, k);
            Fresh.FULL.changesNothing("bond", SkateBonds.OUTSIDE, 0, 1, 3, 10, k);
        }
    }

    private static void bondChangesNothing() {
        Due.part("promises 11 to 14: what is asked alone changes nothing");
        Fresh.FULL.changesNothing("bond", 2, 0, 1, 3, 6, -1);
        Fresh.FULL.changesNothing("bond", 2, 0, 1, 3, 6, 0);
        Fresh.FULL.changesNothing("bond", 3, 0, 1, 3, 6, 1);
        Fresh.FULL.changesNothing("bond", SkateBonds.NONE, 0, 1, 3, 6, 2);
        Fresh.FULL.changesNothing("bond", SkateBonds.NONE, 0, 1, 3, 10, -1);
        Fresh.FULL.changesNothing("holds", 1, 0, 1, 3, 11);
        Fresh.FULL.changesNothing("holds", SkateBonds.NONE, 0, 1, 3, 10);
        Fresh.FULL.changesNothing("alone", Canals.set(0, 1, 2, 3, 5, 6, 7, 11), 0, 3);
        Fresh.FULL.changesNothing("neck", 7, 0, 1, 3, 11);
        Fresh.FULL.changesNothing("neck", SkateBonds.NONE, 0, 1, 3, 6);
    }

    private static void holdsDays() {
        Due.part("==== 3: HOLDS: the most DAYS of THAW (0 to 9) behind which there is a BOND yet");
        for (int load = 1; load <= 9; load++) {
            SkateBonds x = Canals.on("c120;09,s" + load + ",b9");
            for (int strong = 0; strong <= 9; strong++) {
                x.freeze(1, strong);
                int want = strong < load ? SkateBonds.NONE : strong - load;
                Due.is("LOAD " + load + " on " + strong, x.holds(0, 1, 0, 1), want);
            }
        }
        SkateBonds x = Canals.on("c150;01234,s1,s1");
        int[] want = {9, 0, 0, 0, 0};
        for (int to = 0; to < 5; to++) {
            Due.is("from 0 to " + to, x.holds(0, 1, 0, to), want[to]);
        }
        Due.is("from 4 to 3", x.holds(0, 1, 4, 3), 2);
        Due.is("from 2 to 4", x.holds(0, 1, 2, 4), 2);
    }

    private static void holdsItself() {
        Due.part("==== 3: HOLDS, from a CELL to itself: 9");
        for (String text : new String[] {OPEN, "c450;00000;00000;00000;00000,b9,b9"}) {
            SkateBonds x = Canals.on(text);
            for (int c = 0; c < 20; c++) {
                Due.is("holds(0, 1, " + c + ", " + c + ")", x.holds(0, 1, c, c), 9);
            }
        }
    }

    private static void holdsByAnotherRow() {
        Due.part("==== 3: HOLDS: a BOND yet, not the same one");
        SkateBonds x = Canals.on("c340;9319;9009;9999,s1,s1");
        bond(x, 0, 1, 0, 3, "111");
        Due.is("the longer way", x.holds(0, 1, 0, 3), 8);
        x.thaw(1);
        bond(x, 0, 1, 0, 3, "2211100");
        Due.is("behind one day", x.holds(0, 1, 0, 3), 7);
        x.thaw(7);
        Due.is("behind eight", x.holds(0, 1, 0, 3), 0);
        x.thaw(1);
        Due.is("behind nine", x.holds(0, 1, 0, 3), SkateBonds.NONE);
    }

    private static void holdsOfTheHeavier() {
        Due.part("==== 3: HOLDS, in turn");
        SkateBonds x = Canals.on("c130;975,s4,k1");
        Due.is("the heavy one to 1, the light one to 2", x.holds(0, 1, 0, 2), 3);
        Due.is("the light one to 1, the heavy one to 2", x.holds(1, 0, 0, 2), 1);
        Due.is("the heavy one to 1", x.holds(0, 1, 0, 1), 3);
        Due.is("the light one to 1", x.holds(1, 0, 0, 1), 5);
    }

    private static void holdsRefusals() {
        Due.part("promise 12, refusals");
        Fresh.FULL.unknown("holds", SkateBonds.UNKNOWN, 0, 3, 0, 1, 3, 6);
        Fresh.FULL.unknown("holds", SkateBonds.UNKNOWN, 1, 3, 0, 1, 3, 6);
        Fresh.FULL.unknown("holds", SkateBonds.UNKNOWN, 2, 12, 0, 1, 3, 6);
        Fresh.FULL.unknown("holds", SkateBonds.UNKNOWN, 3, 12, 0, 1, 3, 6);
        for (int a = 0; a <= 2; a++) {
            Fresh.FULL.changesNothing("holds", SkateBonds.UNKNOWN, a, a, 3, 6);
            Fresh.FULL.changesNothing("holds", SkateBonds.UNKNOWN, a, a, 3, 3);
        }
        Fresh.NEW.changesNothing("holds", SkateBonds.UNKNOWN, 0, 1, 0, 0);
    }

    private static void aloneThatCell() {
        Due.part("==== 3: ALONE: that CELL, too");
        SkateBonds x = Canals.on("c450;00000;00000;00000;00000,s1,b9");
        for (int c = 0; c < 20; c++) {
            Due.is("alone(0, " + c + ")", x.alone(0, c), 1 << c);
            x.freeze(c, 9);
            Due.is("alone(1, " + c + ")", x.alone(1, c), 1 << c);
            x.freeze(c, 0);
        }
    }

    private static void aloneAll() {
        Due.part("==== 3: ALONE, all there are");
        for (int high = 1; high <= 4; high++) {
            for (int wide = 2; wide <= 5; wide++) {
                SkateBonds x = Canals.on("c" + high + wide + "0" + ";22222".substring(0, wide + 1).repeat(high) + ",s2,k2");
                int all = (1 << (high * wide)) - 1;
                for (int c = 0; c < high * wide; c++) {
                    Due.is("alone(0, " + c + ") of " + high + ", " + wide, x.alone(0, c), all);
                    Due.is("alone(1, " + c + ") of " + high + ", " + wide, x.alone(1, c), 1 << c);
                }
            }
        }
        SkateBonds x = Canals.on("c450;99999;00009;99999;90000,s1,s1");
        Due.is("a way that winds", x.alone(0, 0), Canals.set(0, 1, 2, 3, 4, 9, 10, 11, 12, 13, 14, 15));
        x = Canals.on("c450;90999;90909;90909;99909,s1,s1");
        Due.is("the longest", x.alone(0, 19), Canals.set(0, 5, 10, 15, 16, 17, 12, 7, 2, 3, 4, 9, 14, 19));
    }

    private static void aloneOverNoEdge() {
        Due.part("==== 3: ALONE: a row's end does not lead to the next row");
        for (int wide = 2; wide <= 5; wide++) {
            String nines = "99999".substring(0, wide);
            String zeros = "00000".substring(0, wide);
            SkateBonds x = Canals.on("c4" + wide + "0;" + nines + ";" + zeros + ";" + nines + ";" + zeros + ",s1,s1");
            int row = (1 << wide) - 1;
            Due.is("row 0", x.alone(0, 0), row);
            Due.is("row 0", x.alone(0, wide - 1), row);
            Due.is("row 2", x.alone(0, 2 * wide), row << (2 * wide));
            Due.is("row 2", x.alone(0, 3 * wide - 1), row << (2 * wide));
            Due.is("the last cell of row 1", x.alone(0, 2 * wide - 1), row | row << (2 * wide) | 1 << (2 * wide - 1));
        }
        SkateBonds x = Canals.on("c240;0009;9000,s1,s1");
        Due.is("cell 3 does not lead to 4", x.alone(0, 3), Canals.set(3));
        Due.is("cell 4 does not lead to 3", x.alone(0, 4), Canals.set(4));
        none(x, 0, 1, 3, 4);
        none(x, 0, 1, 4, 3);
    }

    private static void aloneOfOne() {
        Due.part("==== 3: ALONE: by STROKES of one alone");
        SkateBonds x = Canals.on("c150;95359,s3,s5,s6,s9");
        int[] from0 = {Canals.set(0, 1, 2, 3, 4), Canals.set(0, 1), Canals.set(0), Canals.set(0)};
        int[] from2 = {Canals.set(0, 1, 2, 3, 4), Canals.set(0, 1, 2, 3, 4), Canals.set(2), Canals.set(2)};
        for (int a = 0; a < 4; a++) {
            Due.is("alone(" + a + ", 0)", x.alone(a, 0), from0[a]);
            Due.is("alone(" + a + ", 2)", x.alone(a, 2), from2[a]);
        }
    }

    private static void aloneRefusals() {
        Due.part("promise 13, refusals");
        Fresh.FULL.unknown("alone", SkateBonds.UNKNOWN, 0, 3, 0, 3);
        Fresh.FULL.unknown("alone", SkateBonds.UNKNOWN, 1, 12, 0, 3);
        Fresh.NEW.changesNothing("alone", SkateBonds.UNKNOWN, 0, 0);
    }

    private static void neckLeast() {
        Due.part("==== 3: NECK: the least CELL without which there is none");
        SkateBonds x = Canals.on("c150;99999,s1,s1");
        for (int from = 0; from < 5; from++) {
            for (int to = 0; to < 5; to++) {
                int least = Math.min(from, to) + 1;
                boolean isOne = Math.abs(from - to) > 1;
                Due.is("from " + from + " to " + to, x.neck(0, 1, from, to), isOne ? least : SkateBonds.NONE);
            }
        }
        x = Canals.on("c330;999;090;999,s1,s1");
        Due.is("the middle of two rows", x.neck(0, 1, 0, 8), 1);
        Due.is("the middle of two rows", x.neck(0, 1, 2, 6), 1);
        Due.is("from the first of them", x.neck(0, 1, 1, 8), 4);
        Due.is("to the last of them", x.neck(0, 1, 4, 6), 7);
    }

    private static void neckNeitherFirstNorLast() {
        Due.part("==== 3: NECK: neither the first nor the last one");
        SkateBonds x = Canals.on(OPEN);
        for (int from = 0; from < 20; from++) {
            for (int to = from % 2; to < 20; to += 2) {
                Due.is("from " + from + " to " + to, x.neck(0, 1, from, to), SkateBonds.NONE);
            }
        }
        x = Canals.on("c120;99,s1,s1");
        Due.is("two cells", x.neck(0, 1, 0, 1), SkateBonds.NONE);
        Due.is("two cells", x.neck(0, 1, 1, 0), SkateBonds.NONE);
    }

    private static void neckNone() {
        Due.part("promise 14: NONE: there is no such CELL, there is no BOND");
        SkateBonds x = Canals.on("c130;909,s1,s1");
        Due.is("no BOND", x.neck(0, 1, 0, 2), SkateBonds.NONE);
        for (int c = 0; c < 3; c++) {
            Due.is("to itself", x.neck(0, 1, c, c), SkateBonds.NONE);
        }
        x.freeze(1, 1);
        Due.is("a BOND", x.neck(0, 1, 0, 2), 1);
        x = Canals.on("c330;999;909;999,s1,s1");
        Due.is("two ways", x.neck(0, 1, 0, 8), SkateBonds.NONE);
        x.freeze(3, 0);
        Due.is("one way", x.neck(0, 1, 0, 8), 1);
    }

    private static void neckHighest() {
        Due.part("promise 14: the first CELL and the last one that there are");
        SkateBonds x = Canals.on("c450;99999;99990;99909;99999,s1,s1");
        Due.is("by cell 19 alone", x.neck(0, 1, 18, 14), 19);
        Due.is("by cells 18 and 19", x.neck(0, 1, 17, 14), 18);
        x = Canals.on("c450;99999;90999;09999;99999,s1,s1");
        Due.is("by cell 0 alone", x.neck(0, 1, 5, 1), 0);
        x = Canals.on("c230;909;999,s1,s1");
        Due.is("by 4", x.neck(0, 1, 3, 5), 4);
        Due.is("by 3, 4, 5", x.neck(0, 1, 0, 2), 3);
    }

    private static void neckInTurn() {
        Due.part("==== 3: NECK, in turn");
        // The upper way (cells 0, 1, 2) bears both; the lower one (3, 4, 5) has 3 and 5 too weak for the heavy one.
        SkateBonds x = Canals.on("c230;999;292,s2,s9");
        Due.is("the light one first", x.neck(0, 1, 0, 4), SkateBonds.NONE);
        Due.is("the heavy one first", x.neck(1, 0, 0, 4), 1);
        // Two ways round a hole, 1, 2, 5 and 3, 6, 7; cell 6 does not bear the heavy one.
        x = Canals.on("c330;999;909;299,s2,s9");
        Due.is("the heavy one would come to 6", x.neck(0, 1, 0, 8), 1);
        Due.is("the light one comes to 6", x.neck(1, 0, 0, 8), SkateBonds.NONE);
        x = Canals.on("c330;999;909;299,s9,s9,s2,s2");
        Due.is("both heavy", x.neck(0, 1, 0, 8), 1);
        Due.is("both light", x.neck(2, 3, 0, 8), SkateBonds.NONE);
        Due.is("a light one second", x.neck(1, 2, 0, 8), SkateBonds.NONE);
        Due.is("a heavy one second", x.neck(3, 1, 0, 8), 1);
    }

    private static void neckRefusals() {
        Due.part("promise 14, refusals");
        Fresh.FULL.unknown("neck", SkateBonds.UNKNOWN, 0, 3, 0, 1, 3, 6);
        Fresh.FULL.unknown("neck", SkateBonds.UNKNOWN, 1, 3, 0, 1, 3, 6);
        Fresh.FULL.unknown("neck", SkateBonds.UNKNOWN, 2, 12, 0, 1, 3, 6);
        Fresh.FULL.unknown("neck", SkateBonds.UNKNOWN, 3, 12, 0, 1, 3, 6);
        for (int a = 0; a <= 2; a++) {
            Fresh.FULL.changesNothing("neck", SkateBonds.UNKNOWN, a, a, 3, 6);
            Fresh.FULL.changesNothing("neck", SkateBonds.UNKNOWN, a, a, 3, 3);
        }
        Fresh.NEW.changesNothing("neck", SkateBonds.UNKNOWN, 0, 1, 0, 0);
    }
}
