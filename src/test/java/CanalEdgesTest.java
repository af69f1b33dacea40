/** The edges of the canal (the LOAD and promises 1, 3 to 6, 31). */
public final class CanalEdgesTest {
    private static final int MIN = Integer.MIN_VALUE;
    private static final int MAX = Integer.MAX_VALUE;

    private CanalEdgesTest() {
    }

    public static void main(String[] args) {
        newHasNoCanal();
        newHasNothingInSheets();
        loads();
        bears();
        bearsAsASet();
        ofSkaterRefusals();
        strengthOfEachSize();
        freezeValues();
        freezeChangesOneCell();
        freezeRefusals();
        frostValues();
        frostRefusals();
        manyOfEachSize();
        manyWithoutACanal();
        manyRefusals();
        Due.end();
    }

    private static void newHasNoCanal() {
        Due.part("promise 1: no CANAL (no CELLS, SKATERS)");
        SkateBonds x = new SkateBonds();
        for (int a = 0; a < 4; a++) {
            Due.is("ofSkater(" + a + ", 0)", x.ofSkater(a, 0), SkateBonds.UNKNOWN);
            Due.is("weights(" + a + ")", x.weights(a), SkateBonds.UNKNOWN);
            Due.is("kinds(" + a + ")", x.kinds(a), SkateBonds.UNKNOWN);
            Due.is("tell(" + a + ")", x.tell(a), SkateBonds.UNKNOWN);
            Due.is("signed(" + a + ")", x.signed(a), SkateBonds.UNKNOWN);
            Due.is("as(" + a + ", 0)", x.as(a, 0), SkateBonds.UNKNOWN);
            Due.is("alone(" + a + ", 0)", x.alone(a, 0), SkateBonds.UNKNOWN);
            Due.is("reading(" + a + ", 0, true)", x.reading(a, 0, true), SkateBonds.UNKNOWN);
        }
        for (int c = 0; c < 20; c++) {
            Due.is("strength(" + c + ")", x.strength(c), SkateBonds.UNKNOWN);
            Due.is("freeze(" + c + ", 5)", x.freeze(c, 5), SkateBonds.UNKNOWN);
            Due.is("strengths(" + c + ")", x.strengths(c), SkateBonds.UNKNOWN);
        }
        Due.is("bond", x.bond(0, 1, 0, 1, -1), SkateBonds.UNKNOWN);
        Due.is("holds", x.holds(0, 1, 0, 1), SkateBonds.UNKNOWN);
        Due.is("neck", x.neck(0, 1, 0, 1), SkateBonds.UNKNOWN);
        Due.is("odds", x.odds(0, 1, 0, 1, 0, 0), SkateBonds.LOST);
        x.sheet(0, 2, 0);
        Due.is("deed", x.deed(0, 1, 0, 0, 2, 0, 0, 0), SkateBonds.UNKNOWN);
        Due.is("write", x.write(0, 1, 0, 0, 2, 0, 0), SkateBonds.UNKNOWN);
        Due.is("trace()", x.trace(), 0);
    }

    private static void newHasNothingInSheets() {
        Due.part("promise 1: SHEETS have nothing");
        SkateBonds x = new SkateBonds();
        for (int k = 0; k <= 3; k++) {
            Due.is("lose(" + k + ")", x.lose(k), 0);
            Due.is("put(" + k + ", 0, 0)", x.put(k, 0, 0), -11);
            for (int lane = 0; lane <= 2; lane++) {
                Due.is("cell(" + k + ", 0, " + lane + ")", x.cell(k, 0, lane), SkateBonds.LOST);
                Due.is("fault()", x.fault(), 1);
            }
            Due.is("copy(" + k + ", ..)", x.copy(k, 0, 0, 0, 0), -11);
        }
    }

    private static void loads() {
        Due.part("==== 1: LOAD: a SKATER's WEIGHT; a CLERK's 1 more; a BANKER's twice what a CLERK's is");
        for (int weight = 1; weight <= 9; weight++) {
            SkateBonds x = Canals.on("c120;99,s" + weight + ",k" + weight + ",b" + weight);
            int[] loads = {weight, weight + 1, 2 * weight + 2};
            for (int a = 0; a < 3; a++) {
                Due.is("kind", x.ofSkater(a, 0), a);
                Due.is("WEIGHT", x.ofSkater(a, 1), weight);
                Due.is("LOAD of kind " + a + ", WEIGHT " + weight, x.ofSkater(a, 2), loads[a]);
            }
        }
    }

    private static void bears() {
        Due.part("==== 1: a CELL BEARS who has a LOAD no greater than its STRENGTH");
        for (int weight = 1; weight <= 9; weight++) {
            SkateBonds x = Canals.on("c250;01234;56789,s" + weight + ",k" + weight + ",b" + weight);
            int[] loads = {weight, weight + 1, 2 * weight + 2};
            for (int a = 0; a < 3; a++) {
                int set = 0;
                for (int strong = loads[a]; strong <= 9; strong++) {
                    set |= 1 << strong;
                }
                Due.is("ofSkater(" + a + ", 3) of WEIGHT " + weight, x.ofSkater(a, 3), set);
            }
        }
    }

    private static void bearsAsASet() {
        Due.part("promise 3: CELLS that BEAR them, as a set");
        SkateBonds x = Canals.on("c450;00000;00000;00000;00000,s1,b9");
        Due.is("none", x.ofSkater(0, 3), 0);
        for (int c = 0; c < 20; c++) {
            x.freeze(c, 1);
            Due.is("0 to " + c, x.ofSkater(0, 3), (1 << (c + 1)) - 1);
            Due.is("20 is never borne", x.ofSkater(1, 3), 0);
        }
        for (int c = 0; c < 19; c++) {
            x.freeze(c, 0);
            Due.is(c + 1 + " to 19", x.ofSkater(0, 3), (1 << 20) - (1 << (c + 1)));
        }
    }

    private static void ofSkaterRefusals() {
        Due.part("promise 3, refusals");
        for (int what = 0; what <= 3; what++) {
            Fresh.FULL.unknown("ofSkater", SkateBonds.UNKNOWN, 0, 3, 0, what);
            Fresh.NEW.unknown("ofSkater", SkateBonds.UNKNOWN, 0, 0, 0, what);
        }
        for (int a = 0; a <= 2; a++) {
            Fresh.FULL.unknown("ofSkater", SkateBonds.OUTSIDE, 1, 4, a, 0);
        }
        Fresh.FULL.changesNothing("ofSkater", SkateBonds.UNKNOWN, 3, 4);
        Fresh.FULL.changesNothing("ofSkater", SkateBonds.UNKNOWN, -1, -1);
        Fresh.NEW.changesNothing("ofSkater", SkateBonds.UNKNOWN, 0, 4);
        Fresh.FULL.changesNothing("ofSkater", 2, 2, 0);
        Fresh.FULL.changesNothing("ofSkater", 6, 2, 2);
        SkateBonds two = Canals.on("c120;99,s1,s2");
        Due.is("the second of two", two.ofSkater(1, 1), 2);
        Due.is("a third of two", two.ofSkater(2, 1), SkateBonds.UNKNOWN);
        SkateBonds four = Canals.on("c120;99,s1,s2,s3,s4");
        Due.is("the fourth of four", four.ofSkater(3, 1), 4);
        Due.is("a fifth of four", four.ofSkater(4, 1), SkateBonds.UNKNOWN);
    }

    private static void strengthOfEachSize() {
        Due.part("promise 4: STRENGTH of a CELL. UNKNOWN");
        for (int high = 1; high <= 4; high++) {
            for (int wide = 2; wide <= 5; wide++) {
                SkateBonds x = Canals.on("c" + high + wide + "0" + ";45678".substring(0, wide + 1).repeat(high) + ",s1,s1");
                for (int c = 0; c < high * wide; c++) {
                    Due.is("strength(" + c + ")", x.strength(c), 4 + c % wide);
                }
                for (int c : new int[] {-1, high * wide, 20, MIN, MAX}) {
                    Due.is("strength(" + c + ")", x.strength(c), SkateBonds.UNKNOWN);
                }
            }
        }
        Fresh.FULL.unknown("strength", SkateBonds.UNKNOWN, 0, 12, 0);
        Fresh.NEW.unknown("strength", SkateBonds.UNKNOWN, 0, 0, 0);
        Fresh.FULL.changesNothing("strength", 9, 11);
        Fresh.FULL.changesNothing("strength", 0, 10);
    }

    private static void freezeValues() {
        Due.part("promise 5: v (0 .. 9): what it was");
        SkateBonds x = Canals.on("c450;99999;99999;99999;99999,s1,s1");
        for (int c : new int[] {0, 10, 19}) {
            int was = 9;
            for (int v = 0; v <= 9; v++) {
                Due.is("freeze(" + c + ", " + v + ")", x.freeze(c, v), was);
                Due.is("strength(" + c + ")", x.strength(c), v);
                was = v;
            }
            Due.is("the same again", x.freeze(c, 9), 9);
        }
    }

    private static void freezeChangesOneCell() {
        Due.part("promise 5: STRENGTH of a CELL becomes v");
        for (int c = 0; c < 12; c++) {
            SkateBonds x = Fresh.full();
            SkateBonds y = Fresh.full();
            x.put(2, 0, 0);
            int was = y.strength(c);
            Due.is("freeze(" + c + ", 4)", x.freeze(c, 4), was);
            for (int other = 0; other < 12; other++) {
                Due.is("strength(" + other + ")", x.strength(other), other == c ? 4 : y.strength(other));
            }
            Due.is("FROST", x.many(3), 5);
            Due.is("READINGS", x.many(4), 3);
            Due.is("fault() stays", x.fault(), 1);
        }
    }

    private static void freezeRefusals() {
        Due.part("promise 5, refusals");
        Fresh.FULL.unknown("freeze", SkateBonds.UNKNOWN, 0, 12, 0, 5);
        Fresh.FULL.unknown("freeze", SkateBonds.OUTSIDE, 1, 10, 11, 0);
        Fresh.FULL.unknown("freeze", SkateBonds.OUTSIDE, 1, 10, 0, 0);
        Fresh.FULL.changesNothing("freeze", SkateBonds.UNKNOWN, 12, 10);
        Fresh.FULL.changesNothing("freeze", SkateBonds.UNKNOWN, -1, -1);
        Fresh.NEW.changesNothing("freeze", SkateBonds.UNKNOWN, 0, 0);
        Fresh.NEW.changesNothing("freeze", SkateBonds.UNKNOWN, 0, 10);
    }

    private static void frostValues() {
        Due.part("promise 6: FROST becomes v (0 .. 9): what it was");
        SkateBonds x = Canals.on(Canals.TEXT);
        x.put(0, 0, 0);
        int was = 2;
        for (int v = 0; v <= 9; v++) {
            Due.is("frost(" + v + ")", x.frost(v), was);
            Due.is("many(3)", x.many(3), v);
            was = v;
        }
        Due.is("the same again", x.frost(9), 9);
        Due.is("fault() stays", x.fault(), 1);
        Due.is("strength(1) stays", x.strength(1), 1);
    }

    private static void frostRefusals() {
        Due.part("promise 6, refusals");
        Fresh.FULL.unknown("frost", SkateBonds.OUTSIDE, 0, 10, 0);
        Fresh.NEW.unknown("frost", SkateBonds.OUTSIDE, 0, 10, 0);
        for (int v = 0; v <= 9; v++) {
            Fresh.NEW.changesNothing("frost", SkateBonds.STATE, v);
        }
    }

    private static void manyOfEachSize() {
        Due.part("promise 31: how many");
        for (int high = 1; high <= 4; high++) {
            for (int wide = 2; wide <= 5; wide++) {
                for (int skaters = 2; skaters <= 4; skaters++) {
                    String rows = ";45678".substring(0, wide + 1).repeat(high);
                    SkateBonds x = Canals.on("c" + high + wide + high + rows + ",s1".repeat(skaters));
                    int[] want = {skaters, high * wide, wide, high, 0};
                    for (int what = 0; what <= 4; what++) {
                        Due.is("many(" + what + ")", x.many(what), want[what]);
                    }
                }
            }
        }
        SkateBonds x = Canals.on("c129;99,s1,s1");
        for (int k = 1; k <= 8; k++) {
            x.reading(0, 0, true);
            Due.is("READINGS", x.many(4), k);
        }
        x.reading(0, 0, true);
        Due.is("READINGS, full", x.many(4), 8);
        Due.is("FROST 9", x.many(3), 9);
    }

    private static void manyWithoutACanal() {
        Due.part("promise 31: 0 all without a CANAL");
        for (int what = 0; what <= 4; what++) {
            Fresh.NEW.changesNothing("many", 0, what);
        }
        SkateBonds x = new SkateBonds();
        Due.is("a TEXT that is not taken", Canals.take(x, "c459;11111;22222;33333;44444,s1"), -131);
        for (int what = 0; what <= 4; what++) {
            Due.is("many(" + what + ") behind it", x.many(what), 0);
        }
        Due.is("frost(0) behind it", x.frost(0), SkateBonds.STATE);
        Due.is("strength(0) behind it", x.strength(0), SkateBonds.UNKNOWN);
    }

    private static void manyRefusals() {
        Due.part("promise 31, refusals");
        Fresh.FULL.unknown("many", SkateBonds.OUTSIDE, 0, 5, 0);
        Fresh.NEW.unknown("many", SkateBonds.OUTSIDE, 0, 5, 0);
        int[] want = {3, 12, 4, 5, 3};
        for (int what = 0; what <= 4; what++) {
            Fresh.FULL.changesNothing("many", want[what], what);
        }
    }
}
