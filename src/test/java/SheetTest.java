/** Promises 21 to 30: sheets, telling, trace, fault. */
public final class SheetTest {
    private static final int MIN = Integer.MIN_VALUE;
    private static final int MAX = Integer.MAX_VALUE;

    private SheetTest() {
    }

    public static void main(String[] args) {
        sheet();
        lose();
        put();
        cell();
        copy();
        copyFaults();
        tell();
        signed();
        as();
        trace();
        fault();
        Due.end();
    }

    private static void due(String what, SkateBonds x, long got, long want, int fault) {
        Due.is(what, got, want);
        Due.is("fault() of " + what, x.fault(), fault);
    }

    private static void sheet() {
        Due.part("promise 21");
        SkateBonds x = new SkateBonds();
        due("of 60", x, x.sheet(0, 0, 60), 1, 0);
        due("its last", x, x.cell(0, 59, 0), 0, 0);
        due("beyond", x, x.cell(0, 60, 0), SkateBonds.LOST, 3);
        x.put(0, 0, 5);
        due("a new one", x, x.sheet(0, 2, 1), 1, 0);
        due("is of zeros", x, x.cell(0, 0, 2), 0, 0);
        due("and short", x, x.cell(0, 1, 2), SkateBonds.LOST, 3);
        due("of none", x, x.sheet(1, 1, 0), 1, 0);
        due("is not nothing", x, x.cell(1, 0, 1), SkateBonds.LOST, 3);
        x.put(0, 0, 7);
        due("no sheet", x, x.sheet(4, 3, 61), -1, 0);
        due("no sheet", x, x.sheet(-1, 0, -1), -1, 0);
        due("lane", x, x.sheet(0, 3, -1), -2, 0);
        due("lane", x, x.sheet(0, -1, 1), -2, 0);
        due("n 61", x, x.sheet(0, 0, 61), -2, 0);
        due("n max", x, x.sheet(0, 0, MAX), -2, 0);
        due("n -1", x, x.sheet(0, 0, -1), -14, 4);
        due("n min", x, x.sheet(0, 0, MIN), -14, 4);
        due("the row stays", x, x.cell(0, 0, 2), 7, 0);
        for (int k = 0; k < 4; k++) {
            due("sheet(" + k + ")", x, x.sheet(k, 0, 3), 1, 0);
        }
        x.put(2, 1, 9);
        for (int k = 0; k < 4; k++) {
            due("each for itself", x, x.cell(k, 1, 0), k == 2 ? 9 : 0, 0);
        }
        x.sheet(3, 2, 60);
        x.put(3, 50, 4);
        x.sheet(3, 2, 2);
        x.sheet(3, 2, 60);
        due("nothing is left", x, x.cell(3, 50, 2), 0, 0);
    }

    private static void lose() {
        Due.part("promise 22");
        SkateBonds x = new SkateBonds();
        Due.is("nothing", x.lose(0), 0);
        x.sheet(0, 0, 0);
        x.sheet(1, 2, 60);
        Due.is("of none", x.lose(0), 1);
        Due.is("again", x.lose(0), 0);
        Due.is("of 60", x.lose(1), 1);
        due("nothing", x, x.cell(1, 0, 2), SkateBonds.LOST, 1);
        Due.is("no sheet", x.lose(4), SkateBonds.UNKNOWN);
        Due.is("no sheet", x.lose(-1), SkateBonds.UNKNOWN);
        x.put(0, 0, 0);
        x.lose(0);
        Due.is("names no fault", x.fault(), 1);
    }

    private static void put() {
        Due.part("promise 23");
        int[] v = {0, 127, 128, 255, 256, -129, 32767, 32768, 65536, -32769, 70001, MAX, MIN};
        SkateBonds x = new SkateBonds();
        for (int lane = 0; lane <= 2; lane++) {
            x.sheet(lane, lane, v.length);
            for (int i = 0; i < v.length; i++) {
                due("put", x, x.put(lane, i, v[i]), 1, 0);
                long want = lane == 0 ? (byte) v[i] : lane == 1 ? (short) v[i] : v[i];
                due(v[i] + " of lane " + lane, x, x.cell(lane, i, lane), want, 0);
            }
        }
        due("no sheet", x, x.put(4, 99, 1), -1, 0);
        due("no sheet", x, x.put(-1, 0, 1), -1, 0);
        due("nothing", x, x.put(3, 99, 1), -11, 1);
        due("i -1", x, x.put(0, -1, 1), -13, 3);
        due("beyond", x, x.put(0, v.length, 1), -13, 3);
        due("far", x, x.put(0, MAX, 1), -13, 3);
        due("far", x, x.put(0, MIN, 1), -13, 3);
    }

    private static void cell() {
        Due.part("promise 24");
        SkateBonds x = new SkateBonds();
        Canals.row(x, 1, 1, 5, -6, 7);
        due("first", x, x.cell(1, 0, 1), 5, 0);
        due("last", x, x.cell(1, 2, 1), 7, 0);
        due("below 0", x, x.cell(1, 1, 1), -6, 0);
        due("no sheet", x, x.cell(4, 9, 3), SkateBonds.LOST, 0);
        due("nothing", x, x.cell(0, 9, 1), SkateBonds.LOST, 1);
        due("no sheet", x, x.cell(-1, 0, 1), SkateBonds.LOST, 0);
        due("another lane", x, x.cell(1, 9, 0), SkateBonds.LOST, 2);
        due("lane 3", x, x.cell(1, 9, 3), SkateBonds.LOST, 0);
        due("another lane", x, x.cell(1, 0, 2), SkateBonds.LOST, 2);
        due("lane -1 of nothing", x, x.cell(0, 0, -1), SkateBonds.LOST, 0);
        due("beyond", x, x.cell(1, 3, 1), SkateBonds.LOST, 3);
        due("i -1", x, x.cell(1, -1, 1), SkateBonds.LOST, 3);
        due("far", x, x.cell(1, MAX, 1), SkateBonds.LOST, 3);
        due("far", x, x.cell(1, MIN, 1), SkateBonds.LOST, 3);
    }

    private static void isRow(String what, SkateBonds x, int k, int lane, int... numbers) {
        for (int i = 0; i < numbers.length; i++) {
            Due.is(what + ", cell " + i, x.cell(k, i, lane), numbers[i]);
        }
        Due.is(what + ", its end", x.cell(k, numbers.length, lane), SkateBonds.LOST);
    }

    private static void copy() {
        Due.part("promise 25");
        SkateBonds x = new SkateBonds();
        Canals.row(x, 0, 2, 1, 2, 3, 4, 5);
        Canals.row(x, 1, 2, 6, 7, 8);
        due("to another one", x, x.copy(0, 1, 1, 0, 2), 2, 0);
        isRow("the other one", x, 1, 2, 2, 3, 8);
        due("up in itself", x, x.copy(0, 0, 0, 1, 4), 4, 0);
        isRow("up", x, 0, 2, 1, 1, 2, 3, 4);
        due("down in itself", x, x.copy(0, 2, 0, 0, 3), 3, 0);
        isRow("down", x, 0, 2, 2, 3, 4, 3, 4);
        due("all", x, x.copy(1, 0, 0, 2, 3), 3, 0);
        isRow("all", x, 0, 2, 2, 3, 2, 3, 8);
        due("none at the ends", x, x.copy(0, 5, 1, 3, 0), 0, 0);
    }

    private static void copyFaults() {
        Due.part("promise 25, faults");
        SkateBonds x = new SkateBonds();
        Canals.row(x, 0, 2, 1, 2, 3, 4, 5);
        Canals.row(x, 1, 2, 6, 7, 8);
        Canals.row(x, 2, 0, 9);
        due("no sheet", x, x.copy(4, -1, 3, -1, -1), -1, 0);
        due("nothing", x, x.copy(3, -1, 2, -1, -1), -11, 1);
        due("no other", x, x.copy(3, 0, 4, 0, 0), -1, 0);
        due("no other", x, x.copy(0, 0, -1, 0, 0), -1, 0);
        due("other nothing", x, x.copy(0, -1, 3, -1, -1), -11, 1);
        due("unlike lanes", x, x.copy(0, -1, 2, 0, 0), -12, 2);
        int[][] index = {
            {-1, 0, 0}, {0, -1, 0}, {0, 0, -1}, {6, 0, 0}, {0, 4, 0}, {5, 0, 1}, {0, 3, 1}, {0, 0, 4}, {3, 0, 3},
            {0, 1, 3}, {MAX, 0, MAX}, {0, MAX, 1}, {1, 1, MAX}, {MIN, MIN, MIN}, {0, 0, MIN},
        };
        for (int[] f : index) {
            due("i " + f[0] + ", j " + f[1] + ", n " + f[2], x, x.copy(0, f[0], 1, f[1], f[2]), -13, 3);
        }
        isRow("nothing is changed", x, 1, 2, 6, 7, 8);
    }

    private static void tell() {
        Due.part("promise 26");
        SkateBonds x = Canals.on("c120;99,s7,k4,b2");
        Due.is("a skater", x.tell(0), 7);
        Due.is("a clerk", x.tell(1), 104);
        Due.is("a banker", x.tell(2), 104);
        Due.is("no skater", x.tell(3), SkateBonds.UNKNOWN);
        Due.is("no skater", x.tell(-1), SkateBonds.UNKNOWN);
        x = Canals.on("c120;99,b9,s1");
        Due.is("a heavy banker", x.tell(0), 118);
    }

    private static void signed() {
        Due.part("promise 27");
        SkateBonds x = Canals.on("c120;99,s7,b4,k2,s1");
        Due.is("a skater", x.signed(0), 0);
        Due.is("a banker", x.signed(1), 60);
        Due.is("a clerk", x.signed(2), 2);
        Due.is("the last one", x.signed(3), 3);
        Due.is("no skater", x.signed(4), SkateBonds.UNKNOWN);
        Due.is("no skater", x.signed(-1), SkateBonds.UNKNOWN);
    }

    private static void as() {
        Due.part("promise 28");
        SkateBonds x = Canals.on("c120;99,s7,k4,b2");
        for (int a = 0; a < 3; a++) {
            for (int kind = 0; kind <= 2; kind++) {
                boolean is = kind <= a;
                due(a + " as " + kind, x, x.as(a, kind), is ? 1 : -12, is ? 0 : 2);
            }
            due(a + " as 3", x, x.as(a, 3), -2, 0);
            x.as(0, 2);
            due(a + " as -1", x, x.as(a, -1), -2, 0);
        }
        x.as(0, 2);
        due("no skater", x, x.as(3, 3), -1, 0);
        due("no skater", x, x.as(-1, 0), -1, 0);
    }

    private static int traceOf(int... bodies) {
        int trace = 0;
        for (int body : bodies) {
            trace = 31 * trace + body;
        }
        return trace;
    }

    private static void trace() {
        Due.part("promise 29");
        SkateBonds x = Canals.on("c120;99,s7,k4,b2");
        Due.is("at first", x.trace(), 0);
        x.tell(0);
        Due.is("a skater's", x.trace(), traceOf(1));
        x.tell(1);
        Due.is("a clerk's", x.trace(), traceOf(1, 2, 1));
        x.tell(2);
        Due.is("a banker's", x.trace(), traceOf(1, 2, 1, 3, 2, 1, 1));
        x.signed(0);
        Due.is("signed", x.trace(), traceOf(1, 2, 1, 3, 2, 1, 1, 4));
        x.signed(1);
        Due.is("a clerk's sign", x.trace(), traceOf(1, 2, 1, 3, 2, 1, 1, 4, 4));
        x.signed(2);
        Due.is("a banker's sign", x.trace(), traceOf(1, 2, 1, 3, 2, 1, 1, 4, 4, 5));
        x.tell(3);
        x.signed(3);
        x.as(2, 1);
        x.as(0, 1);
        Due.is("nothing is left", x.trace(), traceOf(1, 2, 1, 3, 2, 1, 1, 4, 4, 5));
    }

    private static void fault() {
        Due.part("promise 30");
        SkateBonds x = new SkateBonds();
        Due.is("ahead of any", x.fault(), 0);
        due("NULL", x, x.put(0, 0, 1), -11, 1);
        x.many(9);
        x.lose(0);
        x.frost(1);
        x.nights(1);
        x.tell(0);
        x.odds(0, 1, 0, 0, 0, 0);
        x.trace();
        x.back(1);
        Due.is("these name none", x.fault(), 1);
        due("refused", x, x.put(4, 0, 1), -1, 0);
        due("SIZE", x, x.sheet(0, 0, -1), -14, 4);
        due("done", x, x.sheet(0, 0, 1), 1, 0);
        due("CAST", x, x.canal(0, 1, 0, 1), -12, 2);
        due("a text's fault is none", x, x.canal(0, 0, 0, 1), -100, 0);
        due("INDEX", x, x.cell(0, 1, 0), SkateBonds.LOST, 3);
        due("found", x, x.cell(0, 0, 0), 0, 0);
        due("INDEX", x, x.copy(0, 0, 0, 0, 2), -13, 3);
        due("done", x, x.copy(0, 0, 0, 0, 1), 1, 0);
        due("NULL", x, x.canal(1, 0, 0, 0), -11, 1);
        due("taken", x, Canals.take(x, Canals.TEXT), 3, 0);
        due("CAST", x, x.as(0, 1), -12, 2);
        x.strength(0);
        x.bond(0, 1, 0, 0, -1);
        x.ofSkater(9, 9);
        Due.is("these name none", x.fault(), 2);
        due("a kind", x, x.as(0, 0), 1, 0);
    }
}
