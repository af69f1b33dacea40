/** The edges of sheets (==== 5 and promises 21 to 25, 30). */
public final class SheetEdgesTest {
    private static final int MIN = Integer.MIN_VALUE;
    private static final int MAX = Integer.MAX_VALUE;

    private SheetEdgesTest() {
    }

    public static void main(String[] args) {
        fourSheets();
        rowsOfNoneToSixty();
        zeroAtFirst();
        aNewRow();
        sheetRefusals();
        sheetRefusedForSeveral();
        lose();
        loseRefusals();
        putCuts();
        putOneCell();
        putRefusals();
        cellOfEachLane();
        cellRefusals();
        cellRefusedForSeveral();
        copyParts();
        copyNone();
        copyToTheSame();
        copyAsTheyWere();
        copyOfEachLane();
        copyRefusals();
        copyIndexes();
        copyRefusedForSeveral();
        faultOfTheLatest();
        Due.end();
    }

    private static void isRow(String what, SkateBonds x, int k, int lane, int... numbers) {
        for (int i = 0; i < numbers.length; i++) {
            Due.is(what + ", cell " + i, x.cell(k, i, lane), numbers[i]);
        }
        Due.is(what + ", its end", x.cell(k, numbers.length, lane), SkateBonds.LOST);
        Due.is(what + ", fault() at its end", x.fault(), 3);
    }

    private static void fourSheets() {
        Due.part("==== 5: SHEETS 0 .. 3");
        SkateBonds x = new SkateBonds();
        for (int k = 0; k <= 3; k++) {
            Due.is("sheet(" + k + ", ..)", x.sheet(k, k % 3, k + 1), 1);
            Due.is("put(" + k + ", ..)", x.put(k, k, 10 + k), 1);
        }
        isRow("sheet 0", x, 0, 0, 10);
        isRow("sheet 1", x, 1, 1, 0, 11);
        isRow("sheet 2", x, 2, 2, 0, 0, 12);
        isRow("sheet 3", x, 3, 0, 0, 0, 0, 13);
        for (int k : new int[] {-1, 4, MIN, MAX}) {
            Due.is("sheet(" + k + ", ..)", x.sheet(k, 0, 1), SkateBonds.UNKNOWN);
            Due.is("lose(" + k + ")", x.lose(k), SkateBonds.UNKNOWN);
            Due.is("put(" + k + ", ..)", x.put(k, 0, 0), SkateBonds.UNKNOWN);
            Due.is("cell(" + k + ", ..)", x.cell(k, 0, 0), SkateBonds.LOST);
            Due.is("fault()", x.fault(), 0);
            Due.is("copy(" + k + ", ..)", x.copy(k, 0, 0, 0, 0), SkateBonds.UNKNOWN);
            Due.is("copy(0, 0, " + k + ", ..)", x.copy(0, 0, k, 0, 0), SkateBonds.UNKNOWN);
        }
    }

    private static void rowsOfNoneToSixty() {
        Due.part("==== 5: a row of 0 .. 60 numbers");
        for (int lane = 0; lane <= 2; lane++) {
            for (int n = 0; n <= 60; n++) {
                SkateBonds x = new SkateBonds();
                Due.is("sheet of " + n, x.sheet(1, lane, n), 1);
                Due.is("fault()", x.fault(), 0);
                Due.is("beyond " + n, x.put(1, n, 5), -13);
                if (n > 0) {
                    Due.is("the last of " + n, x.put(1, n - 1, 5), 1);
                    Due.is("the last of " + n, x.cell(1, n - 1, lane), 5);
                    Due.is("the first of " + n, x.cell(1, 0, lane), n == 1 ? 5 : 0);
                }
                Due.is("beyond " + n, x.cell(1, n, lane), SkateBonds.LOST);
                Due.is("fault()", x.fault(), 3);
                Due.is("it has something", x.lose(1), 1);
            }
        }
    }

    private static void zeroAtFirst() {
        Due.part("==== 5: numbers (0 at first)");
        for (int lane = 0; lane <= 2; lane++) {
            SkateBonds x = new SkateBonds();
            x.sheet(2, lane, 60);
            for (int i = 0; i < 60; i++) {
                Due.is("cell " + i, x.cell(2, i, lane), 0);
                x.put(2, i, 7);
            }
            x.sheet(2, lane, 60);
            for (int i = 0; i < 60; i++) {
                Due.is("cell " + i + " of the next row", x.cell(2, i, lane), 0);
                x.put(2, i, 7);
            }
            x.lose(2);
            x.sheet(2, lane, 60);
            for (int i = 0; i < 60; i++) {
                Due.is("cell " + i + " of a row behind nothing", x.cell(2, i, lane), 0);
            }
        }
    }

    private static void aNewRow() {
        Due.part("promise 21: a SHEET gets a new row: 1");
        for (int k = 0; k <= 3; k++) {
            SkateBonds x = Fresh.full();
            x.put(2, 0, 0);
            Due.is("sheet(" + k + ", 1, 2)", x.sheet(k, 1, 2), 1);
            Due.is("fault()", x.fault(), 0);
            isRow("the new row", x, k, 1, 0, 0);
            Due.is("of another LANE now", x.cell(k, 0, 0), SkateBonds.LOST);
            Due.is("fault()", x.fault(), 2);
            SkateBonds y = Fresh.full();
            for (int other = 0; other <= 3; other++) {
                for (int lane = 0; lane <= 2 && other != k; lane++) {
                    for (int i = 0; i < 30; i++) {
                        Due.is("cell(" + other + ", " + i + ", " + lane + ")", x.cell(other, i, lane), y.cell(other, i, lane));
                    }
                }
            }
        }
    }

    private static void sheetRefusals() {
        Due.part("promise 21, UNKNOWN; OUTSIDE: lane, n above 60; SIZE");
        for (int k = 0; k <= 3; k++) {
            Fresh.FULL.unknownOfFaulting("sheet", SkateBonds.OUTSIDE, 1, 3, k, 0, 5);
            for (int n : new int[] {61, 62, MAX}) {
                Fresh.FULL.refused("sheet", SkateBonds.OUTSIDE, k, 0, n);
                Fresh.NEW.refused("sheet", SkateBonds.OUTSIDE, k, 2, n);
            }
            for (int n : new int[] {-1, -2, MIN}) {
                Fresh.FULL.faults("sheet", 4, k, 0, n);
                Fresh.NEW.faults("sheet", 4, k, 2, n);
            }
        }
        Fresh.FULL.unknownOfFaulting("sheet", SkateBonds.UNKNOWN, 0, 4, 0, 0, 5);
        Fresh.NEW.unknownOfFaulting("sheet", SkateBonds.UNKNOWN, 0, 4, 0, 0, 5);
    }

    private static void sheetRefusedForSeveral() {
        Due.part("promise 21, of several the first in the order told");
        Fresh.FULL.refused("sheet", SkateBonds.UNKNOWN, 4, 3, 5);
        Fresh.FULL.refused("sheet", SkateBonds.UNKNOWN, 4, 0, 61);
        Fresh.FULL.refused("sheet", SkateBonds.UNKNOWN, 4, 0, -1);
        Fresh.FULL.refused("sheet", SkateBonds.UNKNOWN, -1, -1, -1);
        Fresh.FULL.refused("sheet", SkateBonds.OUTSIDE, 0, 3, 61);
        Fresh.FULL.refused("sheet", SkateBonds.OUTSIDE, 0, 3, -1);
        Fresh.FULL.refused("sheet", SkateBonds.OUTSIDE, 0, -1, -1);
    }

    private static void lose() {
        Due.part("promise 22: a SHEET has nothing: 1; 0: it had nothing");
        for (int k = 0; k <= 3; k++) {
            for (int n : new int[] {0, 1, 60}) {
                SkateBonds x = new SkateBonds();
                for (int other = 0; other <= 3; other++) {
                    x.sheet(other, 1, n);
                }
                Due.is("lose(" + k + ")", x.lose(k), 1);
                for (int lane = 0; lane <= 2; lane++) {
                    Due.is("cell of it", x.cell(k, 0, lane), SkateBonds.LOST);
                    Due.is("fault()", x.fault(), 1);
                }
                Due.is("put into it", x.put(k, 0, 1), -11);
                Due.is("lose(" + k + ") again", x.lose(k), 0);
                for (int other = 0; other <= 3; other++) {
                    Due.is("lose(" + other + ")", x.lose(other), other == k ? 0 : 1);
                }
                Due.is("a new row", x.sheet(k, 2, n), 1);
                Due.is("lose(" + k + ")", x.lose(k), 1);
            }
        }
    }

    private static void loseRefusals() {
        Due.part("promise 22, UNKNOWN; it names no FAULTS");
        Fresh.FULL.unknown("lose", SkateBonds.UNKNOWN, 0, 4, 0);
        Fresh.NEW.unknown("lose", SkateBonds.UNKNOWN, 0, 4, 0);
        Fresh.FULL.changesNothing("lose", 0, 2);
        for (int k = 0; k <= 3; k++) {
            Fresh.NEW.changesNothing("lose", 0, k);
        }
        SkateBonds x = new SkateBonds();
        x.sheet(0, 0, 1);
        x.put(0, 1, 0);
        Due.is("lose(0)", x.lose(0), 1);
        Due.is("fault() stays", x.fault(), 3);
    }

    private static void putCuts() {
        Due.part("==== 5: what comes to a cell of it is cut to its LANE");
        int[][] cuts = {
            {0, 0, 0, 0}, {1, 1, 1, 1}, {-1, -1, -1, -1}, {126, 126, 126, 126}, {127, 127, 127, 127},
            {128, -128, 128, 128}, {129, -127, 129, 129}, {-128, -128, -128, -128}, {-129, 127, -129, -129},
            {255, -1, 255, 255}, {256, 0, 256, 256}, {-256, 0, -256, -256}, {32767, -1, 32767, 32767},
            {32768, 0, -32768, 32768}, {32769, 1, -32767, 32769}, {-32768, 0, -32768, -32768},
            {-32769, -1, 32767, -32769}, {65535, -1, -1, 65535}, {65536, 0, 0, 65536}, {-65536, 0, 0, -65536},
            {MAX, -1, -1, MAX}, {MIN, 0, 0, MIN}, {MIN + 1, 1, 1, MIN + 1}, {1234567890, -46, 722, 1234567890},
        };
        for (int lane = 0; lane <= 2; lane++) {
            SkateBonds x = new SkateBonds();
            x.sheet(0, lane, 1);
            for (int[] cut : cuts) {
                Due.is("put " + cut[0], x.put(0, 0, cut[0]), 1);
                Due.is(cut[0] + " in LANE " + lane, x.cell(0, 0, lane), cut[1 + lane]);
                Due.is("fault()", x.fault(), 0);
            }
        }
    }

    private static void putOneCell() {
        Due.part("promise 23: cell i of a SHEET becomes v: 1");
        for (int i = 0; i < 5; i++) {
            SkateBonds x = new SkateBonds();
            Canals.row(x, 0, 1, 1, 2, 3, 4, 5);
            Canals.row(x, 1, 1, 1, 2, 3, 4, 5);
            Due.is("put(0, " + i + ", 9)", x.put(0, i, 9), 1);
            for (int other = 0; other < 5; other++) {
                Due.is("cell " + other, x.cell(0, other, 1), other == i ? 9 : other + 1);
                Due.is("cell " + other + " of another SHEET", x.cell(1, other, 1), other + 1);
            }
        }
    }

    private static void putRefusals() {
        Due.part("promise 23, UNKNOWN; NULL; INDEX");
        Fresh.FULL.unknownOfFaulting("put", SkateBonds.UNKNOWN, 0, 4, 0, 0, 5);
        Fresh.NEW.unknownOfFaulting("put", SkateBonds.UNKNOWN, 0, 4, 0, 0, 5);
        int[] lengths = {11, 3, -1, 28};
        for (int k = 0; k <= 3; k++) {
            for (int i : new int[] {-1, -2, Math.max(0, lengths[k]), 60, 61, MIN, MAX}) {
                Fresh.FULL.faults("put", lengths[k] < 0 ? 1 : 3, k, i, 5);
                Fresh.NEW.faults("put", 1, k, i, 5);
            }
        }
        Due.part("promise 23, of several the first in the order told");
        Fresh.FULL.refused("put", SkateBonds.UNKNOWN, 4, -1, 5);
        Fresh.FULL.refused("put", SkateBonds.UNKNOWN, -1, 99, 5);
        Fresh.FULL.faults("put", 1, 2, -1, 5);
        Fresh.FULL.faults("put", 1, 2, 99, 5);
    }

    private static void cellOfEachLane() {
        Due.part("promise 24: cell i of what a SHEET has, taken as a row of a LANE");
        for (int lane = 0; lane <= 2; lane++) {
            for (int as = 0; as <= 2; as++) {
                SkateBonds x = new SkateBonds();
                Canals.row(x, 3, lane, -5, 0, 100);
                int[] row = {-5, 0, 100};
                for (int i = -1; i <= 3; i++) {
                    boolean isThere = i >= 0 && i < 3;
                    long want = as == lane && isThere ? row[i] : SkateBonds.LOST;
                    Due.is("cell " + i + " of LANE " + lane + " as " + as, x.cell(3, i, as), want);
                    Due.is("fault()", x.fault(), as != lane ? 2 : isThere ? 0 : 3);
                }
            }
        }
        Fresh.FULL.refused("cell", 9, 0, 0, 0);
        Fresh.FULL.refused("cell", -1, 0, 10, 0);
        Fresh.FULL.refused("cell", 300, 1, 2, 1);
        Fresh.FULL.refused("cell", 'c', 3, 0, 2);
        Fresh.FULL.refused("cell", '2', 3, 27, 2);
    }

    private static void cellRefusals() {
        Due.part("promise 24, LOST: UNKNOWN, OUTSIDE: lane; FAULTS CAST, NULL, INDEX");
        Fresh.FULL.unknownOfFaulting("cell", SkateBonds.LOST, 0, 4, 0, 0, 0);
        Fresh.FULL.unknownOfFaulting("cell", SkateBonds.LOST, 2, 3, 0, 0, 0);
        Fresh.FULL.unknownOfFaulting("cell", SkateBonds.LOST, 2, 3, 2, 0, 0);
        Fresh.NEW.unknownOfFaulting("cell", SkateBonds.LOST, 0, 4, 0, 0, 0);
        Fresh.NEW.unknownOfFaulting("cell", SkateBonds.LOST, 2, 3, 0, 0, 0);
        int[] lanes = {0, 1, -1, 2};
        int[] lengths = {11, 3, 0, 28};
        for (int k = 0; k <= 3; k++) {
            for (int lane = 0; lane <= 2; lane++) {
                for (int i : new int[] {-1, lengths[k], 60, MIN, MAX}) {
                    Fresh.FULL.faults("cell", lanes[k] < 0 ? 1 : lanes[k] != lane ? 2 : 3, k, i, lane);
                }
                Fresh.NEW.faults("cell", 1, k, 0, lane);
            }
        }
    }

    private static void cellRefusedForSeveral() {
        Due.part("promise 24, of several the first in the order told");
        Fresh.FULL.refused("cell", SkateBonds.LOST, 4, 0, 3);
        Fresh.FULL.refused("cell", SkateBonds.LOST, 4, -1, 0);
        Fresh.FULL.refused("cell", SkateBonds.LOST, 0, -1, 3);
        Fresh.FULL.refused("cell", SkateBonds.LOST, 2, 0, -1);
        Fresh.FULL.faults("cell", 2, 0, -1, 1);
        Fresh.FULL.faults("cell", 1, 2, -1, 1);
    }

    private static SkateBonds twoRows() {
        SkateBonds x = new SkateBonds();
        Canals.row(x, 0, 2, 1, 2, 3, 4, 5);
        Canals.row(x, 1, 2, 6, 7, 8);
        return x;
    }

    private static void copyParts() {
        Due.part("promise 25: n cells of a SHEET from i on go to another one from j on: n");
        SkateBonds x = twoRows();
        Due.is("one", x.copy(0, 4, 1, 2, 1), 1);
        isRow("one", x, 1, 2, 6, 7, 5);
        isRow("what is copied stays", x, 0, 2, 1, 2, 3, 4, 5);
        Due.is("two", x.copy(0, 1, 1, 0, 2), 2);
        isRow("two", x, 1, 2, 2, 3, 5);
        Due.is("all", x.copy(1, 0, 0, 2, 3), 3);
        isRow("all", x, 0, 2, 1, 2, 2, 3, 5);
        Due.is("fault()", x.fault(), 3);
        Due.is("all again", x.copy(1, 0, 0, 0, 3), 3);
        Due.is("fault()", x.fault(), 0);
        x = new SkateBonds();
        x.sheet(2, 1, 60);
        x.sheet(3, 1, 60);
        for (int i = 0; i < 60; i++) {
            x.put(2, i, i + 1);
        }
        Due.is("60", x.copy(2, 0, 3, 0, 60), 60);
        for (int i = 0; i < 60; i++) {
            Due.is("cell " + i + " of 60", x.cell(3, i, 1), i + 1);
        }
        Due.is("61", x.copy(2, 0, 3, 0, 61), -13);
    }

    private static void copyNone() {
        Due.part("promise 25: n cells, none; FAULTS: INDEX also if none of them is taken");
        Fresh two = new Fresh(SheetEdgesTest::twoRows);
        for (int i = -1; i <= 6; i++) {
            for (int j = -1; j <= 4; j++) {
                if (i >= 0 && i <= 5 && j >= 0 && j <= 3) {
                    two.refused("copy", 0, 0, i, 1, j, 0);
                } else {
                    two.faults("copy", 3, 0, i, 1, j, 0);
                }
            }
        }
        for (int far : new int[] {MIN, MAX}) {
            two.faults("copy", 3, 0, far, 1, 0, 0);
            two.faults("copy", 3, 0, 0, 1, far, 0);
            two.faults("copy", 3, 0, far, 0, far, 0);
        }
        SkateBonds x = new SkateBonds();
        x.sheet(0, 0, 0);
        x.sheet(1, 0, 60);
        Due.is("of rows of none", x.copy(0, 0, 0, 0, 0), 0);
        Due.is("to a row of 60", x.copy(0, 0, 1, 60, 0), 0);
        Due.is("from a row of 60", x.copy(1, 60, 0, 0, 0), 0);
        Due.is("fault()", x.fault(), 0);
        Due.is("beyond a row of none", x.copy(0, 1, 1, 0, 0), -13);
        Due.is("beyond a row of none", x.copy(1, 0, 0, 1, 0), -13);
        Due.is("beyond a row of 60", x.copy(1, 61, 0, 0, 0), -13);
        Due.is("beyond a row of 60", x.copy(0, 0, 1, 61, 0), -13);
    }

    private static void copyToTheSame() {
        Due.part("promise 25: perhaps the same");
        for (int i = 0; i <= 5; i++) {
            for (int j = 0; j <= 5; j++) {
                for (int n = 0; n <= 6; n++) {
                    SkateBonds x = twoRows();
                    boolean isThere = i + n <= 5 && j + n <= 5;
                    Due.is(Calls.told("copy", 0, i, 0, j, n), x.copy(0, i, 0, j, n), isThere ? n : -13);
                    for (int c = 0; c < 5; c++) {
                        int want = isThere && c >= j && c < j + n ? 1 + i + (c - j) : 1 + c;
                        Due.is("cell " + c + " then", x.cell(0, c, 2), want);
                    }
                }
            }
        }
    }

    private static void copyAsTheyWere() {
        Due.part("promise 25: as they were");
        SkateBonds x = new SkateBonds();
        Canals.row(x, 0, 0, 1, 2, 3, 4, 5, 6);
        Due.is("one up", x.copy(0, 0, 0, 1, 5), 5);
        isRow("one up", x, 0, 0, 1, 1, 2, 3, 4, 5);
        Due.is("one down", x.copy(0, 1, 0, 0, 5), 5);
        isRow("one down", x, 0, 0, 1, 2, 3, 4, 5, 5);
        Due.is("in its place", x.copy(0, 0, 0, 0, 6), 6);
        isRow("in its place", x, 0, 0, 1, 2, 3, 4, 5, 5);
    }

    private static void copyOfEachLane() {
        Due.part("promise 25: CAST (unlike LANES)");
        int[] edges = {-128, -32768, MIN};
        for (int lane = 0; lane <= 2; lane++) {
            for (int other = 0; other <= 2; other++) {
                SkateBonds x = new SkateBonds();
                Canals.row(x, 0, lane, edges[lane], 1);
                Canals.row(x, 1, other, 2, 3);
                boolean isLike = lane == other;
                Due.is("LANE " + lane + " to " + other, x.copy(0, 0, 1, 0, 1), isLike ? 1 : -12);
                Due.is("fault()", x.fault(), isLike ? 0 : 2);
                Due.is("LANE " + lane + " to " + other + ", none", x.copy(0, 0, 1, 0, 0), isLike ? 0 : -12);
                Due.is("LANE " + lane + " to " + other + ", beyond", x.copy(0, 0, 1, 0, 3), isLike ? -13 : -12);
                isRow("then", x, 1, other, isLike ? edges[lane] : 2, 3);
            }
        }
    }

    private static void copyRefusals() {
        Due.part("promise 25, UNKNOWN; FAULTS NULL (the first, the other)");
        Fresh.FULL.unknownOfFaulting("copy", SkateBonds.UNKNOWN, 0, 4, 0, 0, 0, 0, 1);
        Fresh.FULL.unknownOfFaulting("copy", SkateBonds.UNKNOWN, 2, 4, 0, 0, 0, 0, 1);
        Fresh.NEW.unknownOfFaulting("copy", SkateBonds.UNKNOWN, 0, 4, 0, 0, 0, 0, 1);
        Fresh.NEW.unknownOfFaulting("copy", SkateBonds.UNKNOWN, 2, 4, 0, 0, 0, 0, 1);
        for (int k = 0; k <= 3; k++) {
            Fresh.FULL.faults("copy", 1, 2, 0, k, 0, 0);
            Fresh.FULL.faults("copy", 1, k, 0, 2, 0, 0);
            Fresh.NEW.faults("copy", 1, k, 0, 3 - k, 0, 0);
        }
    }

    private static void copyIndexes() {
        Due.part("promise 25, INDEX: i, j, n below 0 or beyond");
        Fresh two = new Fresh(SheetEdgesTest::twoRows);
        int[][] wrong = {
            {-1, 0, 1}, {0, -1, 1}, {0, 0, -1}, {5, 0, 1}, {6, 0, 1}, {0, 3, 1}, {0, 4, 1}, {4, 0, 2}, {0, 2, 2}, {0, 0, 4},
            {3, 0, 3}, {0, 1, 3}, {0, 0, 6}, {MAX, 0, 1}, {0, MAX, 1}, {0, 0, MAX}, {1, 0, MAX}, {0, 1, MAX}, {1, 1, MAX},
            {MAX, MAX, MAX}, {MIN, 0, 1}, {0, MIN, 1}, {0, 0, MIN}, {MIN, MIN, MIN}, {MIN, 0, MIN}, {1, 1, -1}, {5, 3, -1},
            {MAX, 0, MIN}, {-1, 1, 1}, {1, -1, 1},
        };
        for (int[] w : wrong) {
            two.faults("copy", 3, 0, w[0], 1, w[1], w[2]);
        }
        Due.is("the last that is", twoRows().copy(0, 2, 1, 0, 3), 3);
        Due.is("the last that is", twoRows().copy(0, 4, 1, 2, 1), 1);
    }

    private static void copyRefusedForSeveral() {
        Due.part("promise 25, of several the first in the order told");
        Fresh.FULL.refused("copy", SkateBonds.UNKNOWN, 2, 0, 4, 0, 0);
        Fresh.FULL.refused("copy", SkateBonds.UNKNOWN, 4, 0, 2, 0, 0);
        Fresh.FULL.refused("copy", SkateBonds.UNKNOWN, 0, -1, -1, -1, -1);
        Fresh.FULL.faults("copy", 1, 2, -1, 0, -1, -1);
        Fresh.FULL.faults("copy", 1, 0, -1, 2, -1, -1);
        Fresh.FULL.faults("copy", 2, 0, -1, 1, -1, -1);
        Fresh.FULL.faults("copy", 2, 1, 99, 3, 99, 99);
        Fresh.FULL.faults("copy", 3, 0, 0, 0, 0, 12);
    }

    private static void faultOfTheLatest() {
        Due.part("promise 30: the FAULT of the latest call that names one");
        Due.is("0 ahead of any", new SkateBonds().fault(), 0);
        SkateBonds x = new SkateBonds();
        x.many(0);
        x.lose(0);
        x.strength(0);
        Due.is("0 ahead of any", x.fault(), 0);
        // Each call that names FAULTS: one that comes to none, one that is refused, behind each FAULT.
        Object[][] calls = {
            {"canal", 3, 2, 0, 28}, {"canal", 3, 2, 0, 27}, {"canal", 4, 2, 0, 28}, {"canal", 3, 3, 0, 28},
            {"deed", 0, 1, 3, 0, 0, 1, 4, 0}, {"deed", 0, 1, 3, 0, 0, 1, 7, 0}, {"deed", 0, 0, 3, 0, 0, 1, 4, 0},
            {"deed", 0, 1, 3, 0, 0, 0, 1, 0}, {"deed", 0, 1, 3, 0, 0, 1, 4, 5}, {"write", 0, 1, 3, 0, 0, 1, 4},
            {"write", 0, 1, 3, 0, 0, 1, 7}, {"write", 0, 0, 3, 0, 0, 1, 4}, {"write", 0, 1, 3, 0, 0, 0, 1},
            {"sheet", 0, 0, 5}, {"sheet", 4, 0, 5}, {"sheet", 0, 0, 61}, {"put", 0, 0, 5}, {"put", 4, 0, 5},
            {"cell", 0, 0, 0}, {"cell", 4, 0, 0}, {"cell", 0, 0, 3}, {"copy", 0, 0, 0, 1, 4}, {"copy", 4, 0, 0, 0, 0},
            {"as", 0, 0}, {"as", 3, 0}, {"as", 0, 3},
        };
        for (Object[] call : calls) {
            for (int before = 1; before <= 4; before++) {
                SkateBonds y = Fresh.full();
                makeFault(y, before);
                Due.is("fault()", y.fault(), before);
                Object[] with = java.util.Arrays.copyOfRange(call, 1, call.length);
                Calls.ask(y, (String) call[0], with);
                Due.is("fault() behind " + Calls.told((String) call[0], with), y.fault(), 0);
                Due.is("and again", y.fault(), 0);
            }
        }
        // Each call that names none, be it refused or not.
        Object[][] others = {
            {"ofSkater", 0, 0}, {"ofSkater", 9, 9}, {"strength", 0}, {"strength", -1}, {"freeze", 0, 3}, {"freeze", 0, 10},
            {"frost", 3}, {"frost", 10}, {"nights", 1}, {"nights", 10}, {"thaw", 1}, {"thaw", 10},
            {"bond", 0, 1, 3, 6, -1}, {"bond", 0, 1, 3, 6, 40}, {"holds", 0, 1, 3, 6}, {"holds", 0, 0, 3, 6},
            {"alone", 0, 3}, {"alone", 0, -1}, {"neck", 0, 1, 3, 6}, {"neck", 0, 0, 3, 6}, {"reading", 0, 0, true},
            {"reading", 3, 0, true}, {"back", 1}, {"back", 9}, {"weights", 0}, {"weights", 3}, {"kinds", 0}, {"kinds", 3},
            {"strengths", 0}, {"strengths", 12}, {"odds", 0, 1, 3, 6, 4, 0}, {"odds", 0, 0, 3, 6, 4, 0}, {"lose", 0},
            {"lose", 2}, {"lose", 4}, {"tell", 2}, {"tell", 3}, {"signed", 2}, {"signed", 3}, {"trace"}, {"many", 0},
            {"many", 5},
        };
        for (Object[] call : others) {
            for (int before = 1; before <= 4; before++) {
                SkateBonds y = Fresh.full();
                makeFault(y, before);
                Object[] with = java.util.Arrays.copyOfRange(call, 1, call.length);
                Calls.ask(y, (String) call[0], with);
                Due.is("fault() behind " + Calls.told((String) call[0], with), y.fault(), before);
            }
        }
    }

    private static void makeFault(SkateBonds x, int fault) {
        switch (fault) {
            case 1: x.put(2, 0, 0); break;
            case 2: x.as(0, 1); break;
            case 3: x.put(0, 11, 0); break;
            default: x.sheet(0, 0, -1); break;
        }
    }
}
