/** The edges of deeds, nights and thaw (==== 2 and promises 7 to 10). */
public final class DeedEdgesTest {
    private static final int MIN = Integer.MIN_VALUE;
    private static final int MAX = Integer.MAX_VALUE;
    /** Round all of 4 rows of 5: from cell 0 on 14 strokes lead to cell 0. */
    private static final String ROUND = "11112223333000";

    private DeedEdgesTest() {
    }

    public static void main(String[] args) {
        strokesAtEachEdge();
        edgesOfALaterCanal();
        noStroke();
        oneStroke();
        fortyStrokes();
        fortyFirstStroke();
        inTurn();
        bears();
        cutByOne();
        cutMoreThanOnce();
        notCutWhereItBegins();
        firstWrongs();
        lastIsWrong();
        strokesOfA();
        codesOfStrokes();
        noStrokeBehindAFirstWrong();
        partOfARow();
        deedChangesNothing();
        deedUnknown();
        deedOutside();
        deedFaults();
        deedRefusedForSeveral();
        deedOfNoStrokesIndex();
        writeAnswers();
        writeChangesStrengthsAlone();
        writeWrongChangesNothing();
        writeRefusals();
        writeRefusedForSeveral();
        nights();
        nightsNineAtMost();
        nightsRefusals();
        thaw();
        thawZeroAtLeast();
        thawRefusals();
        Due.end();
    }

    /** Strokes, told as digits, as a row of ints in sheet 0. */
    private static SkateBonds on(String text, String strokes) {
        SkateBonds x = Canals.on(text);
        strokes(x, strokes);
        return x;
    }

    private static void strokes(SkateBonds x, String strokes) {
        x.sheet(0, 2, strokes.length());
        for (int i = 0; i < strokes.length(); i++) {
            x.put(0, i, strokes.charAt(i) - '0');
        }
    }

    /** Asks all five of a deed of 0 and 1 by the whole row of sheet 0, and of it as one that is written. */
    private static void deed(SkateBonds x, int c, int n, int at, int cut, int strong, int ofA) {
        int[] want = {at, SkateBonds.NONE, cut, strong, ofA};
        for (int what = 0; what <= 4; what++) {
            Due.is("n " + n + " from " + c + ", what " + what, x.deed(0, 1, c, 0, 2, 0, n, what), want[what]);
        }
    }

    private static void wrong(SkateBonds x, int c, int n, int firstWrong) {
        for (int what = 0; what <= 4; what++) {
            int want = what == 1 ? firstWrong : -100 - firstWrong;
            Due.is("n " + n + " from " + c + ", what " + what, x.deed(0, 1, c, 0, 2, 0, n, what), want);
        }
        Due.is("n " + n + " from " + c + ", written", x.write(0, 1, c, 0, 2, 0, n), -100 - firstWrong);
        Due.is("fault()", x.fault(), 0);
    }

    private static String open(int high, int wide) {
        return "c" + high + wide + "0" + ";99999".substring(0, wide + 1).repeat(high) + ",s1,s1";
    }

    /** Each STROKE from each CELL of open ice; and where one comes to by them. */
    private static void edges(SkateBonds x, int high, int wide) {
        for (int c = 0; c < high * wide; c++) {
            int row = c / wide;
            int column = c % wide;
            int[] next = {
                row > 0 ? c - wide : -100, column < wide - 1 ? c + 1 : -100,
                row < high - 1 ? c + wide : -100, column > 0 ? c - 1 : -100,
            };
            for (int stroke = 0; stroke < 4; stroke++) {
                Due.is("from " + c + " by " + stroke, x.deed(0, 1, c, 0, 2, stroke, 1, 0), next[stroke]);
            }
            Due.is("alone(0, " + c + ")", x.alone(0, c), (1 << (high * wide)) - 1);
            Due.is("bond from 0 to " + c, x.bond(0, 1, 0, c, -1), row + column);
        }
        Due.is("no CELL more", x.deed(0, 1, high * wide, 0, 2, 0, 0, 0), SkateBonds.UNKNOWN);
    }

    private static void strokesAtEachEdge() {
        Due.part("==== 2: STROKES: 0 up, 1 right, 2 down, 3 left, to the next CELL");
        for (int high = 1; high <= 4; high++) {
            for (int wide = 2; wide <= 5; wide++) {
                edges(on(open(high, wide), "0123"), high, wide);
            }
        }
    }

    private static void edgesOfALaterCanal() {
        Due.part("==== 2: off the ice, as the latest TEXT tells it");
        for (int size = 0; size < 16; size++) {
            for (int other = 0; other < 16; other++) {
                SkateBonds x = on(open(1 + other / 4, 2 + other % 4), "0123");
                // The one of before is told twice, so that nothing of it may be left anywhere.
                x.canal(3, 2, 0, open(1 + other / 4, 2 + other % 4).length());
                Due.is("the later canal", Canals.take(x, open(1 + size / 4, 2 + size % 4)), 2);
                edges(x, 1 + size / 4, 2 + size % 4);
            }
        }
    }

    private static void noStroke() {
        Due.part("promise 7: n (0 .. 40), none");
        SkateBonds x = on(Canals.TEXT, "0");
        int[] strengths = {9, 1, 3, 5, 2, 8, 6, 4, 7, 1, 0, 9};
        for (int c = 0; c < 12; c++) {
            deed(x, c, 0, c, 0, strengths[c], 0);
            Due.is("written", x.write(0, 1, c, 0, 2, 0, 0), 0);
            Due.is("strength(" + c + ")", x.strength(c), strengths[c]);
        }
        x.sheet(0, 2, 0);
        deed(x, 3, 0, 3, 0, 5, 0);
        x.sheet(0, 2, 60);
        deed(x, 3, 0, 3, 0, 5, 0);
    }

    private static void oneStroke() {
        Due.part("promise 7: n (0 .. 40), one");
        SkateBonds x = on("c121;93,s3,s4", "1");
        deed(x, 0, 1, 1, 2, 2, 1);
        Due.is("written", x.write(0, 1, 0, 0, 2, 0, 1), 1);
        Due.is("strength(1)", x.strength(1), 2);
    }

    private static void fortyStrokes() {
        Due.part("promise 7: n (0 .. 40), as many as there may be");
        SkateBonds x = on("c450;99999;99999;99999;99999,s1,k2", (ROUND + ROUND + ROUND).substring(0, 40));
        int round = Canals.set(0, 1, 2, 3, 4, 9, 14, 19, 18, 17, 16, 15, 10, 5);
        deed(x, 0, 39, 15, round, 6, 20);
        deed(x, 0, 40, 10, round, 6, 20);
        Due.is("written", x.write(0, 1, 0, 0, 2, 0, 40), 40);
        for (int c = 0; c < 20; c++) {
            boolean isOn = (round >> c & 1) == 1;
            int want = !isOn ? 9 : c == 0 || c == 5 ? 7 : 6;
            Due.is("strength(" + c + ")", x.strength(c), want);
        }
    }

    private static void fortyFirstStroke() {
        Due.part("promise 7: n (0 .. 40), the first that is not");
        SkateBonds x = Canals.on("c450;99999;99999;99999;99999,s1,s1");
        x.sheet(0, 2, 60);
        for (int i = 0; i < 60; i++) {
            x.put(0, i, ROUND.charAt(i % 14) - '0');
        }
        Due.is("40", x.deed(0, 1, 0, 0, 2, 0, 40, 0), 10);
        Due.is("the last 40 of 60", x.deed(0, 1, 14, 0, 2, 20, 40, 1), SkateBonds.NONE);
        for (int n : new int[] {-1, 41, 60, 61, MIN, MAX}) {
            for (int what = 0; what <= 4; what++) {
                Due.is("n " + n, x.deed(0, 1, 0, 0, 2, 0, n, what), SkateBonds.OUTSIDE);
                Due.is("fault()", x.fault(), 0);
            }
            Due.is("n " + n + ", written", x.write(0, 1, 0, 0, 2, 0, n), SkateBonds.OUTSIDE);
            Due.is("fault()", x.fault(), 0);
        }
    }

    private static void inTurn() {
        Due.part("==== 2: the first one by the first of them, then in turn");
        // The light one comes to cells 1 and 3, the heavy one to 2 and 4; or the other way round.
        SkateBonds x = on("c150;91919,s1,s9,b9", "1111");
        int all = Canals.set(1, 2, 3, 4);
        deed(x, 0, 4, 4, all, 8, 2);
        Due.is("the heavy one first", x.deed(1, 0, 0, 0, 2, 0, 4, 1), 0);
        Due.is("the heavy one first, from 1 on", x.deed(1, 0, 1, 0, 2, 0, 3, 0), 4);
        Due.is("the heavy one first, from 1 on, its strokes", x.deed(1, 0, 1, 0, 2, 0, 3, 4), 2);
        for (int n = 1; n <= 4; n++) {
            Due.is("none bears a load of 20, second", x.deed(0, 2, 0, 0, 2, 0, n, 1), n == 1 ? SkateBonds.NONE : 1);
            Due.is("none bears a load of 20, first", x.deed(2, 0, 0, 0, 2, 0, n, 1), 0);
        }
    }

    private static void bears() {
        Due.part("==== 2: whoever makes it must be BORNE by the CELL to which it leads");
        for (int load = 1; load <= 9; load++) {
            SkateBonds x = on("c120;00,s" + load + ",b9", "1");
            for (int strong = 0; strong <= 9; strong++) {
                x.freeze(1, strong);
                int want = strong >= load ? SkateBonds.NONE : 0;
                Due.is("LOAD " + load + " on " + strong, x.deed(0, 1, 0, 0, 2, 0, 1, 1), want);
                Due.is("LOAD 20 on " + strong, x.deed(1, 0, 0, 0, 2, 0, 1, 1), 0);
            }
        }
        SkateBonds x = on("c120;00,k3,b1", "1");
        x.freeze(1, 3);
        Due.is("LOAD 4 on 3, clerk", x.deed(0, 1, 0, 0, 2, 0, 1, 1), 0);
        Due.is("LOAD 4 on 3, banker", x.deed(1, 0, 0, 0, 2, 0, 1, 1), 0);
        x.freeze(1, 4);
        Due.is("LOAD 4 on 4, clerk", x.deed(0, 1, 0, 0, 2, 0, 1, 1), SkateBonds.NONE);
        Due.is("LOAD 4 on 4, banker", x.deed(1, 0, 0, 0, 2, 0, 1, 1), SkateBonds.NONE);
    }

    private static void cutByOne() {
        Due.part("==== 2: then that CELL has 1 less of STRENGTH (it is CUT; 0 at least)");
        for (int strong = 1; strong <= 9; strong++) {
            SkateBonds x = on("c120;0" + strong + ",s1,k9", "1");
            deed(x, 0, 1, 1, 2, strong - 1, 1);
            Due.is("written", x.write(0, 1, 0, 0, 2, 0, 1), 1);
            Due.is("strength(1) of " + strong, x.strength(1), strong - 1);
        }
        SkateBonds x = on("c120;01,s1,s1", "1");
        x.write(0, 1, 0, 0, 2, 0, 1);
        wrong(x, 0, 1, 0);
        Due.is("0 at least", x.strength(1), 0);
    }

    private static void cutMoreThanOnce() {
        Due.part("==== 2: CUT by one deed more than once");
        SkateBonds x = on("c120;99,s1,s1", "131313131313131313" + "1");
        for (int n = 0; n <= 18; n++) {
            int cut = n == 0 ? 0 : n == 1 ? 2 : 3;
            deed(x, 0, n, n % 2, cut, n == 0 ? 9 : 9 - (n + 1) / 2, (n + 1) / 2);
        }
        wrong(x, 0, 19, 18);
        Due.is("written", x.write(0, 1, 0, 0, 2, 0, 18), 18);
        Due.is("strength(0)", x.strength(0), 0);
        Due.is("strength(1)", x.strength(1), 0);
        x = on("c120;24,s2,s2", "131");
        deed(x, 0, 3, 1, 3, 2, 2);
        x = on("c120;23,s2,s2", "131");
        deed(x, 0, 2, 0, 3, 1, 1);
        deed(x, 0, 3, 1, 3, 1, 2);
        x = on("c120;22,s2,s2", "131");
        wrong(x, 0, 3, 2);
    }

    private static void notCutWhereItBegins() {
        Due.part("==== 2: the CELL to which it leads; where it begins bears and is cut by nobody");
        for (int strong = 0; strong <= 9; strong++) {
            SkateBonds x = on("c120;" + strong + "9,s9,s9", "1");
            deed(x, 0, 1, 1, 2, 8, 1);
            x.write(0, 1, 0, 0, 2, 0, 1);
            Due.is("strength(0)", x.strength(0), strong);
        }
    }

    private static void firstWrongs() {
        Due.part("==== 2: FIRST WRONG: the first STROKE that leads off the ice, or to a CELL that does not BEAR");
        String way = "1122330";
        SkateBonds x = on("c330;999;999;999,s2,s2", way);
        int[] cells = {1, 2, 5, 8, 7, 6, 3};
        deed(x, 0, 7, 3, Canals.set(1, 2, 5, 8, 7, 6, 3), 8, 4);
        for (int k = 0; k < cells.length; k++) {
            x.freeze(cells[k], 1);
            for (int n = 1; n <= 7; n++) {
                if (n > k) {
                    wrong(x, 0, n, k);
                } else {
                    Due.is("n " + n, x.deed(0, 1, 0, 0, 2, 0, n, 1), SkateBonds.NONE);
                }
            }
            x = on("c330;999;999;999,s2,s2", way);
        }
        x = on("c330;999;999;999,s2,s2", "0111");
        wrong(x, 0, 4, 0);
        wrong(x, 3, 4, 3);
        x = on("c330;999;909;999,s2,s2", "1122");
        wrong(x, 3, 4, 0);
    }

    private static void lastIsWrong() {
        Due.part("promise 7: -100 less the last STROKE that there may be");
        SkateBonds x = on("c450;99999;99999;99999;99999,s1,s1", (ROUND + ROUND + ROUND).substring(0, 40));
        x.freeze(10, 2);
        Due.is("39 strokes", x.deed(0, 1, 0, 0, 2, 0, 39, 1), SkateBonds.NONE);
        wrong(x, 0, 40, 39);
        x.freeze(10, 3);
        Due.is("40 strokes", x.deed(0, 1, 0, 0, 2, 0, 40, 3), 0);
    }

    private static void strokesOfA() {
        Due.part("promise 7: STROKES of a");
        SkateBonds x = on("c450;99999;99999;99999;99999,s1,k2", (ROUND + ROUND + ROUND).substring(0, 40));
        int[] want = {
            0, 1, 1, 2, 2, 3, 3, 4, 4, 5, 5, 6, 6, 7, 7, 8, 8, 9, 9, 10, 10, 11, 11, 12, 12, 13, 13, 14, 14, 15, 15, 16,
            16, 17, 17, 18, 18, 19, 19, 20, 20,
        };
        for (int n = 0; n <= 40; n++) {
            Due.is("n " + n, x.deed(0, 1, 0, 0, 2, 0, n, 4), want[n]);
            Due.is("n " + n + ", the other first", x.deed(1, 0, 0, 0, 2, 0, n, 4), want[n]);
        }
    }

    private static void codesOfStrokes() {
        Due.part("promise 7: OUTSIDE: a cell is no STROKE");
        SkateBonds x = Canals.on("c330;999;999;999,s1,s1");
        int[] next = {1, 5, 7, 3};
        for (int lane = 0; lane <= 2; lane++) {
            x.sheet(lane, lane, 3);
            for (int v : new int[] {0, 1, 2, 3, 4, -1, 5, 127, -128, 256, 257, 259, 260, 65536, 65539, MIN, MAX}) {
                x.put(lane, 1, v);
                long stroke = x.cell(lane, 1, lane);
                boolean isStroke = stroke >= 0 && stroke <= 3;
                int want = isStroke ? next[(int) stroke] : SkateBonds.OUTSIDE;
                Due.is(v + " in lane " + lane, x.deed(0, 1, 4, lane, lane, 1, 1, 0), want);
                Due.is("fault()", x.fault(), 0);
            }
        }
        Due.is("260 as a byte", x.put(0, 1, 260), 1);
        Due.is("is 4", x.deed(0, 1, 4, 0, 0, 1, 1, 1), SkateBonds.OUTSIDE);
        Due.is("257 as a byte", x.put(0, 1, 257), 1);
        Due.is("is 1", x.deed(0, 1, 4, 0, 0, 1, 1, 0), 5);
        Due.is("65539 as a short", x.put(1, 1, 65539), 1);
        Due.is("is 3", x.deed(0, 1, 4, 1, 1, 1, 1, 0), 3);
    }

    private static void noStrokeBehindAFirstWrong() {
        Due.part("promise 7: a cell is no STROKE, ahead of what the DEED answers");
        for (int place = 0; place < 4; place++) {
            for (int v : new int[] {4, -1}) {
                // The first stroke leads off the ice.
                SkateBonds x = on("c330;999;999;999,s1,s1", "0000");
                x.put(0, place, v);
                for (int n = 0; n <= 4; n++) {
                    int right = n == 0 ? SkateBonds.NONE : 0;
                    Due.is(v + " at " + place + ", n " + n, x.deed(0, 1, 0, 0, 2, 0, n, 1), n > place ? -2 : right);
                    Due.is("written", x.write(0, 1, 0, 0, 2, 0, n), n > place ? -2 : n == 0 ? 0 : -100);
                    Due.is("fault()", x.fault(), 0);
                }
            }
        }
    }

    private static void partOfARow() {
        Due.part("promise 7: by n such cells of a SHEET from i on");
        SkateBonds x = Canals.on("c330;999;999;999,s1,s1");
        for (int k = 0; k <= 3; k++) {
            Canals.row(x, k, 1, 9, 0, 1, 2, 3, -1);
            Due.is("between what is no STROKE", x.deed(0, 1, 4, k, 1, 1, 4, 0), 4);
            Due.is("and all of it is cut", x.deed(0, 1, 4, k, 1, 1, 4, 2), Canals.set(1, 2, 4, 5));
            Due.is("one too soon", x.deed(0, 1, 4, k, 1, 0, 4, 0), SkateBonds.OUTSIDE);
            Due.is("one too many", x.deed(0, 1, 4, k, 1, 1, 5, 0), SkateBonds.OUTSIDE);
            Due.is("the last one", x.deed(0, 1, 4, k, 1, 4, 1, 0), 3);
            Due.is("beyond", x.deed(0, 1, 4, k, 1, 4, 3, 0), -13);
        }
    }

    private static void deedChangesNothing() {
        Due.part("promise 7: nothing is changed");
        int[] want = {11, -9, Canals.set(2, 6, 7, 11), 8, 2};
        for (int what = 0; what <= 4; what++) {
            Fresh.FULL.refused("deed", want[what], 0, 1, 3, 0, 0, 1, 4, what);
            Fresh.FULL.refused("deed", what == 1 ? 6 : -106, 0, 1, 3, 0, 0, 1, 7, what);
            Fresh.FULL.refused("deed", what == 1 ? 0 : -100, 2, 1, 0, 1, 1, 0, 2, what);
        }
    }

    private static void deedUnknown() {
        Due.part("promise 7, UNKNOWN: SKATERS, one with themselves, CELL, SHEET");
        Fresh.FULL.unknownOfFaulting("deed", SkateBonds.UNKNOWN, 0, 3, 0, 1, 3, 0, 0, 1, 4, 0);
        Fresh.FULL.unknownOfFaulting("deed", SkateBonds.UNKNOWN, 1, 3, 0, 1, 3, 0, 0, 1, 4, 0);
        Fresh.FULL.unknownOfFaulting("deed", SkateBonds.UNKNOWN, 2, 12, 0, 1, 3, 0, 0, 1, 4, 0);
        Fresh.FULL.unknownOfFaulting("deed", SkateBonds.UNKNOWN, 3, 4, 0, 1, 3, 0, 0, 1, 4, 0);
        for (int a = 0; a <= 2; a++) {
            for (int what = 0; what <= 4; what++) {
                Fresh.FULL.refused("deed", SkateBonds.UNKNOWN, a, a, 3, 0, 0, 1, 0, what);
            }
        }
        Fresh.NEW.refused("deed", SkateBonds.UNKNOWN, 0, 1, 0, 0, 0, 0, 0, 0);
    }

    private static void deedOutside() {
        Due.part("promise 7, OUTSIDE: lane, n (0 .. 40), what");
        Fresh.FULL.unknownOfFaulting("deed", SkateBonds.OUTSIDE, 4, 3, 0, 1, 3, 0, 0, 1, 4, 0);
        Fresh.FULL.unknownOfFaulting("deed", SkateBonds.OUTSIDE, 6, 41, 0, 1, 3, 0, 0, 1, 4, 0);
        Fresh.FULL.unknownOfFaulting("deed", SkateBonds.OUTSIDE, 7, 5, 0, 1, 3, 0, 0, 1, 4, 0);
        Fresh.FULL.faults("deed", 3, 0, 1, 3, 0, 0, 1, 40, 0);
        Due.part("promise 7, OUTSIDE: a cell is no STROKE");
        Fresh.FULL.refused("deed", SkateBonds.OUTSIDE, 0, 1, 3, 0, 0, 0, 1, 0);
        Fresh.FULL.refused("deed", SkateBonds.OUTSIDE, 0, 1, 3, 0, 0, 9, 1, 1);
        Fresh.FULL.refused("deed", SkateBonds.OUTSIDE, 0, 1, 3, 0, 0, 10, 1, 2);
        Fresh.FULL.refused("deed", SkateBonds.OUTSIDE, 0, 1, 3, 1, 1, 0, 3, 3);
    }

    private static void deedFaults() {
        Due.part("promise 7, CAST; NULL; INDEX");
        int[] lanes = {0, 1, -1, 2};
        for (int k = 0; k <= 3; k++) {
            for (int lane = 0; lane <= 2; lane++) {
                if (lanes[k] != lane) {
                    Fresh.FULL.faults("deed", lanes[k] == -1 ? 1 : 2, 0, 1, 3, k, lane, 0, 1, 0);
                }
            }
        }
        int[][] beyond = {
            {-1, 1}, {-1, 2}, {11, 1}, {10, 2}, {0, 12}, {1, 11}, {0, 40}, {12, 1}, {MAX, 1}, {MAX, 40}, {MIN, 1}, {MIN, 40},
        };
        for (int[] part : beyond) {
            for (int what = 0; what <= 4; what++) {
                Fresh.FULL.faults("deed", 3, 0, 1, 3, 0, 0, part[0], part[1], what);
            }
            Fresh.FULL.faults("write", 3, 0, 1, 3, 0, 0, part[0], part[1]);
        }
    }

    private static void deedRefusedForSeveral() {
        Due.part("promise 7, of several the first in the order told");
        int[][] unknown = {{0, 0, 3, 0}, {3, 1, 3, 0}, {0, 3, 3, 0}, {0, 1, 12, 0}, {0, 1, 3, 4}};
        for (int[] u : unknown) {
            Fresh.FULL.refused("deed", SkateBonds.UNKNOWN, u[0], u[1], u[2], u[3], 3, 1, 1, 0);
            Fresh.FULL.refused("deed", SkateBonds.UNKNOWN, u[0], u[1], u[2], u[3], 0, 1, 41, 0);
            Fresh.FULL.refused("deed", SkateBonds.UNKNOWN, u[0], u[1], u[2], u[3], 0, 1, 1, 5);
            Fresh.FULL.refused("deed", SkateBonds.UNKNOWN, u[0], u[1], u[2], u[3], 1, 1, 1, 0);
            Fresh.FULL.refused("deed", SkateBonds.UNKNOWN, u[0], u[1], u[2], u[3], 0, 99, 1, 0);
            Fresh.FULL.refused("deed", SkateBonds.UNKNOWN, u[0], u[1], u[2], u[3], 0, 0, 1, 0);
        }
        // Lane, n, what; each with each FAULT behind it.
        int[][] outside = {{3, 1, 0}, {-1, 1, 0}, {0, 41, 0}, {0, -1, 0}, {0, 1, 5}, {0, 1, -1}};
        for (int[] o : outside) {
            for (int k = 0; k <= 3; k++) {
                Fresh.FULL.refused("deed", SkateBonds.OUTSIDE, 0, 1, 3, k, o[0], 0, o[1], o[2]);
                Fresh.FULL.refused("deed", SkateBonds.OUTSIDE, 0, 1, 3, k, o[0], -1, o[1], o[2]);
            }
        }
        Fresh.FULL.faults("deed", 2, 0, 1, 3, 0, 1, -1, 1, 0);
        Fresh.FULL.faults("deed", 2, 0, 1, 3, 0, 2, 0, 1, 0);
        Fresh.FULL.faults("deed", 1, 0, 1, 3, 2, 0, -1, 1, 0);
        Fresh.FULL.faults("deed", 3, 0, 1, 3, 0, 0, 0, 12, 0);
        Fresh.FULL.faults("deed", 3, 0, 1, 3, 0, 0, 10, 2, 0);
    }

    private static void deedOfNoStrokesIndex() {
        Due.part("FAULTS: INDEX also where i is not 0 .. how many there are, if none of them is taken");
        for (int i = 0; i <= 11; i++) {
            Fresh.FULL.refused("deed", 3, 0, 1, 3, 0, 0, i, 0, 0);
            Fresh.FULL.refused("write", 0, 0, 1, 3, 0, 0, i, 0);
        }
        for (int i : new int[] {-1, 12, MIN, MAX}) {
            Fresh.FULL.faults("deed", 3, 0, 1, 3, 0, 0, i, 0, 0);
            Fresh.FULL.faults("write", 3, 0, 1, 3, 0, 0, i, 0);
        }
        for (int length : new int[] {0, 60}) {
            SkateBonds x = Canals.on(Canals.TEXT);
            x.sheet(0, 0, length);
            Due.is("at the end of " + length, x.deed(0, 1, 3, 0, 0, length, 0, 0), 3);
            Due.is("beyond the end of " + length, x.deed(0, 1, 3, 0, 0, length + 1, 0, 0), -13);
            Due.is("at the end of " + length, x.write(0, 1, 3, 0, 0, length, 0), 0);
            Due.is("beyond the end of " + length, x.write(0, 1, 3, 0, 0, length + 1, 0), -13);
        }
    }

    private static void writeAnswers() {
        Due.part("promise 8: how many STROKES");
        for (int n = 0; n <= 40; n++) {
            SkateBonds x = on("c450;99999;99999;99999;99999,s1,k2", (ROUND + ROUND + ROUND).substring(0, 40));
            x.put(1, 0, 0);
            Due.is("fault() ahead", x.fault(), 1);
            Due.is("n " + n, x.write(0, 1, 0, 0, 2, 0, n), n);
            Due.is("fault()", x.fault(), 0);
            int cuts = 0;
            for (int c = 0; c < 20; c++) {
                cuts += 9 - x.strength(c);
            }
            Due.is("all cuts of " + n, cuts, n);
        }
    }

    private static void writeChangesStrengthsAlone() {
        Due.part("promise 8: CELLS are CUT");
        Fresh written = new Fresh(() -> {
            SkateBonds x = Fresh.full();
            x.write(0, 1, 3, 0, 0, 1, 4);
            return x;
        });
        // The same is come to by freeze() alone.
        Fresh frozen = new Fresh(() -> {
            SkateBonds x = Fresh.full();
            x.freeze(2, 2);
            x.freeze(6, 5);
            x.freeze(7, 3);
            x.freeze(11, 8);
            return x;
        });
        Due.holds("written as frozen", written.looksLike(frozen));
        Due.holds("and not as before", !written.looksLike(Fresh.FULL));
        SkateBonds x = on("c120;33,s1,s1", "1313");
        Due.is("written", x.write(0, 1, 0, 0, 2, 0, 4), 4);
        Due.is("written on", x.write(1, 0, 0, 0, 2, 0, 2), 2);
        Due.is("strength(0)", x.strength(0), 0);
        wrong(x, 0, 1, 0);
    }

    private static void writeWrongChangesNothing() {
        Due.part("promise 8: -100 less a FIRST WRONG (nothing is changed)");
        Fresh.FULL.refused("write", -106, 0, 1, 3, 0, 0, 1, 7);
        Fresh.FULL.refused("write", -106, 0, 1, 3, 0, 0, 1, 8);
        Fresh.FULL.refused("write", -100, 1, 0, 3, 0, 0, 1, 1);
        Fresh.FULL.refused("write", -100, 2, 1, 0, 1, 1, 0, 2);
    }

    private static void writeRefusals() {
        Due.part("promise 8, refusals");
        Fresh.FULL.unknownOfFaulting("write", SkateBonds.UNKNOWN, 0, 3, 0, 1, 3, 0, 0, 1, 4);
        Fresh.FULL.unknownOfFaulting("write", SkateBonds.UNKNOWN, 1, 3, 0, 1, 3, 0, 0, 1, 4);
        Fresh.FULL.unknownOfFaulting("write", SkateBonds.UNKNOWN, 2, 12, 0, 1, 3, 0, 0, 1, 4);
        Fresh.FULL.unknownOfFaulting("write", SkateBonds.UNKNOWN, 3, 4, 0, 1, 3, 0, 0, 1, 4);
        Fresh.FULL.unknownOfFaulting("write", SkateBonds.OUTSIDE, 4, 3, 0, 1, 3, 0, 0, 1, 4);
        Fresh.FULL.unknownOfFaulting("write", SkateBonds.OUTSIDE, 6, 41, 0, 1, 3, 0, 0, 1, 4);
        for (int a = 0; a <= 2; a++) {
            Fresh.FULL.refused("write", SkateBonds.UNKNOWN, a, a, 3, 0, 0, 1, 1);
        }
        Fresh.NEW.refused("write", SkateBonds.UNKNOWN, 0, 1, 0, 0, 0, 0, 0);
        int[] lanes = {0, 1, -1, 2};
        for (int k = 0; k <= 3; k++) {
            for (int lane = 0; lane <= 2; lane++) {
                if (lanes[k] != lane) {
                    Fresh.FULL.faults("write", lanes[k] == -1 ? 1 : 2, 0, 1, 3, k, lane, 0, 1);
                }
            }
        }
        Fresh.FULL.refused("write", SkateBonds.OUTSIDE, 0, 1, 3, 0, 0, 0, 1);
        Fresh.FULL.refused("write", SkateBonds.OUTSIDE, 0, 1, 3, 0, 0, 1, 9);
        Fresh.FULL.refused("write", SkateBonds.OUTSIDE, 0, 1, 3, 0, 0, 10, 1);
        Fresh.FULL.refused("write", SkateBonds.OUTSIDE, 0, 1, 3, 1, 1, 0, 3);
    }

    private static void writeRefusedForSeveral() {
        Due.part("promise 8, of several the first in the order told");
        int[][] unknown = {{0, 0, 3, 0}, {3, 1, 3, 0}, {0, 3, 3, 0}, {0, 1, 12, 0}, {0, 1, 3, 4}};
        for (int[] u : unknown) {
            Fresh.FULL.refused("write", SkateBonds.UNKNOWN, u[0], u[1], u[2], u[3], 3, 1, 1);
            Fresh.FULL.refused("write", SkateBonds.UNKNOWN, u[0], u[1], u[2], u[3], 0, 1, 41);
            Fresh.FULL.refused("write", SkateBonds.UNKNOWN, u[0], u[1], u[2], u[3], 1, 1, 1);
            Fresh.FULL.refused("write", SkateBonds.UNKNOWN, u[0], u[1], u[2], u[3], 0, 99, 1);
            Fresh.FULL.refused("write", SkateBonds.UNKNOWN, u[0], u[1], u[2], u[3], 0, 0, 1);
        }
        int[][] outside = {{3, 1}, {-1, 1}, {0, 41}, {0, -1}};
        for (int[] o : outside) {
            for (int k = 0; k <= 3; k++) {
                Fresh.FULL.refused("write", SkateBonds.OUTSIDE, 0, 1, 3, k, o[0], 0, o[1]);
                Fresh.FULL.refused("write", SkateBonds.OUTSIDE, 0, 1, 3, k, o[0], -1, o[1]);
            }
        }
        Fresh.FULL.faults("write", 2, 0, 1, 3, 0, 1, -1, 1);
        Fresh.FULL.faults("write", 1, 0, 1, 3, 2, 0, -1, 1);
        Fresh.FULL.faults("write", 3, 0, 1, 3, 0, 0, 0, 12);
        // What is no STROKE stands ahead of a FIRST WRONG.
        Fresh.FULL.refused("write", SkateBonds.OUTSIDE, 0, 1, 3, 0, 0, 8, 2);
    }

    private static void nights() {
        Due.part("promise 9: n NIGHTS (0 .. 9): how many CELLS are of STRENGTH 9");
        int[] nines = {1, 2, 3, 4, 5, 6, 7, 8, 9, 10};
        for (int n = 0; n <= 9; n++) {
            SkateBonds x = Canals.on("c251;01234;56789,s1,s1");
            x.put(0, 0, 0);
            Due.is("nights(" + n + ")", x.nights(n), nines[n]);
            for (int c = 0; c < 10; c++) {
                Due.is("strength(" + c + ")", x.strength(c), Math.min(9, c + n));
            }
            Due.is("FROST stays", x.many(3), 1);
            Due.is("fault() stays", x.fault(), 1);
        }
        Due.is("all 20", Canals.on("c459;00000;00000;00000;00000,s1,s1").nights(1), 20);
        Due.is("none of 20", Canals.on("c458;00000;00000;00000;00000,s1,s1").nights(1), 0);
    }

    private static void nightsNineAtMost() {
        Due.part("==== 2: each CELL has FROST more of STRENGTH, 9 at most");
        for (int frost = 0; frost <= 9; frost++) {
            for (int n = 0; n <= 9; n++) {
                SkateBonds x = Canals.on("c25" + frost + ";01234;56789,s1,s1");
                int nines = 0;
                for (int strong = 0; strong <= 9; strong++) {
                    nines += strong + n * frost >= 9 ? 1 : 0;
                }
                Due.is("FROST " + frost + ", nights(" + n + ")", x.nights(n), nines);
                for (int c = 0; c < 10; c++) {
                    Due.is("strength(" + c + ")", x.strength(c), Math.min(9, c + n * frost));
                }
            }
        }
        SkateBonds x = Canals.on("c120;01,s1,s1");
        x.frost(4);
        Due.is("as FROST is", x.nights(2), 1);
        Due.is("8", x.strength(0), 8);
    }

    private static void nightsRefusals() {
        Due.part("promise 9, refusals");
        Fresh.FULL.unknown("nights", SkateBonds.OUTSIDE, 0, 10, 0);
        Fresh.NEW.unknown("nights", SkateBonds.OUTSIDE, 0, 10, 0);
        for (int n = 0; n <= 9; n++) {
            Fresh.NEW.changesNothing("nights", SkateBonds.STATE, n);
        }
        Fresh.FULL.changesNothing("nights", 2, 0);
    }

    private static void thaw() {
        Due.part("promise 10: n DAYS of THAW (0 .. 9): how many CELLS are of STRENGTH 0");
        int[] zeros = {1, 2, 3, 4, 5, 6, 7, 8, 9, 10};
        for (int n = 0; n <= 9; n++) {
            SkateBonds x = Canals.on("c257;01234;56789,s1,s1");
            x.put(0, 0, 0);
            Due.is("thaw(" + n + ")", x.thaw(n), zeros[n]);
            for (int c = 0; c < 10; c++) {
                Due.is("strength(" + c + ")", x.strength(c), Math.max(0, c - n));
            }
            Due.is("FROST stays", x.many(3), 7);
            Due.is("fault() stays", x.fault(), 1);
        }
        Due.is("all 20", Canals.on("c459;99999;99999;99999;99999,s1,s1").thaw(9), 20);
        Due.is("none of 20", Canals.on("c459;99999;99999;99999;99999,s1,s1").thaw(8), 0);
    }

    private static void thawZeroAtLeast() {
        Due.part("==== 2: a DAY of THAW: each 1 less, 0 at least");
        SkateBonds x = Canals.on("c121;05,s1,s1");
        Due.is("thaw(9)", x.thaw(9), 2);
        Due.is("thaw(9) again", x.thaw(9), 2);
        Due.is("no less than 0: a NIGHT heals at once", x.nights(1), 0);
        Due.is("strength(0)", x.strength(0), 1);
        Due.is("strength(1)", x.strength(1), 1);
    }

    private static void thawRefusals() {
        Due.part("promise 10, refusals");
        Fresh.FULL.unknown("thaw", SkateBonds.OUTSIDE, 0, 10, 0);
        Fresh.NEW.unknown("thaw", SkateBonds.OUTSIDE, 0, 10, 0);
        for (int n = 0; n <= 9; n++) {
            Fresh.NEW.changesNothing("thaw", SkateBonds.STATE, n);
        }
        Fresh.FULL.changesNothing("thaw", 1, 0);
    }
}
