/** Promises 1 to 6 and 31: a new object, the canal, its skaters and cells. */
public final class CanalTest {
    private CanalTest() {
    }

    public static void main(String[] args) {
        newObject();
        canalIsTaken();
        canalOfEachSize();
        canalFirstFaults();
        canalRefusals();
        canalMakesAnew();
        canalRefusedChangesNothing();
        ofSkater();
        strength();
        freeze();
        frost();
        many();
        Due.end();
    }

    private static void newObject() {
        Due.part("promise 1");
        SkateBonds x = new SkateBonds();
        for (int what = 0; what <= 4; what++) {
            Due.is("many(" + what + ")", x.many(what), 0);
        }
        for (int k = 0; k <= 3; k++) {
            Due.is("cell of sheet " + k, x.cell(k, 0, 0), SkateBonds.LOST);
            Due.is("its fault", x.fault(), 1);
            Due.is("lose(" + k + ")", x.lose(k), 0);
        }
        Due.is("trace()", x.trace(), 0);
        Due.is("fault() ahead of any", new SkateBonds().fault(), 0);
        Due.is("strength(0)", x.strength(0), SkateBonds.UNKNOWN);
        Due.is("ofSkater(0, 0)", x.ofSkater(0, 0), SkateBonds.UNKNOWN);
        Due.is("frost(3)", x.frost(3), SkateBonds.STATE);
        Due.is("nights(1)", x.nights(1), SkateBonds.STATE);
        Due.is("thaw(1)", x.thaw(1), SkateBonds.STATE);
        Due.is("bond", x.bond(0, 1, 0, 0, -1), SkateBonds.UNKNOWN);
        Due.is("alone", x.alone(0, 0), SkateBonds.UNKNOWN);
        Due.is("reading", x.reading(0, 0, true), SkateBonds.UNKNOWN);
        Due.is("tell", x.tell(0), SkateBonds.UNKNOWN);
        Due.is("back(0)", x.back(0), 0);
    }

    private static void canalIsTaken() {
        Due.part("promise 2");
        for (int lane = 0; lane <= 2; lane++) {
            SkateBonds x = new SkateBonds();
            Canals.write(x, lane, lane, "xx" + Canals.TEXT + "yyy");
            Due.is("canal of lane " + lane, x.canal(lane, lane, 2, Canals.TEXT.length()), 3);
            Due.is("fault()", x.fault(), 0);
            Due.is("many(0)", x.many(0), 3);
            Due.is("many(1)", x.many(1), 12);
            Due.is("many(2)", x.many(2), 4);
            Due.is("many(3)", x.many(3), 2);
            int[] strengths = {9, 1, 3, 5, 2, 8, 6, 4, 7, 1, 0, 9};
            for (int c = 0; c < strengths.length; c++) {
                Due.is("strength(" + c + ")", x.strength(c), strengths[c]);
            }
        }
        SkateBonds x = new SkateBonds();
        Due.is("two skaters", Canals.take(x, "c129;09,s9,b1"), 2);
        Due.is("four skaters", Canals.take(x, "c129;09,s9,b1,k5,b9"), 4);
        Due.is("LOAD of the fourth", x.ofSkater(3, 2), 20);
        Canals.row(x, 0, 2, 256 + 'c', '1', '2', '0', ';', '1', '1', ',', 's', '1', ',', 's', '1');
        Due.is("an int is not cut to a code", x.canal(0, 2, 0, 12), -100);
        Canals.row(x, 0, 0, 256 + 'c', '1', '2', '0', ';', '1', '1', ',', 's', '1', ',', 's', '1');
        Due.is("a byte has been cut", x.canal(0, 0, 0, 13), 2);
    }

    private static void canalOfEachSize() {
        Due.part("promise 2, sizes");
        SkateBonds x = new SkateBonds();
        for (int high = 1; high <= 4; high++) {
            for (int wide = 2; wide <= 5; wide++) {
                StringBuilder text = new StringBuilder("c").append(high).append(wide).append(high + wide);
                for (int row = 0; row < high; row++) {
                    text.append(";012345678".substring(0, wide + 1));
                }
                Due.is("canal " + text, Canals.take(x, text + ",s1,k2,b3,s4"), 4);
                Due.is("cells", x.many(1), high * wide);
                Due.is("wide", x.many(2), wide);
                Due.is("frost", x.many(3), high + wide);
                Due.is("last cell", x.strength(high * wide - 1), wide - 1);
                Due.is("no cell", x.strength(high * wide), SkateBonds.UNKNOWN);
                x = new SkateBonds();
            }
        }
    }

    private static void canalFirstFaults() {
        Due.part("promise 2, FIRST FAULT");
        String text = "c231;535;818,s2,k4,b1,s9";
        for (int place = 0; place < text.length(); place++) {
            SkateBonds x = new SkateBonds();
            Canals.write(x, 0, 2, text);
            x.put(0, place, 'x');
            Due.is("x at " + place, x.canal(0, 2, 0, text.length()), -100 - place);
            Due.is("fault()", x.fault(), 0);
            x.put(0, place, text.charAt(place));
            boolean isWhole = place == 18 || place == 21;
            Due.is("ends at " + place, x.canal(0, 2, 0, place), isWhole ? (place - 12) / 3 : -100 - place);
        }
        String[] wrong = {
            "c031;535;818,s2,k4", "c531;535;818,s2,k4", "c211;535;818,s2,k4", "c261;535;818,s2,k4",
            "c23/;535;818,s2,k4", "c23:;535;818,s2,k4", "c231;/35;818,s2,k4", "c231;53:;818,s2,k4",
            "c231;5355818,s2,k4", "c231;535;818;535,s2,k4", "c231;535,s2,k4", "c231;535;818,s0,k4",
            "c231;535;818,s:,k4", "c231;535;818,c2,k4", "c231;535;818,s2,k4;", "c231;535;818,s2,k4,b1,s9,",
            "c231;535;818,s2,k4,b1,s9,s1", "C231;535;818,s2,k4", "c231;535;818,s2", "c231;535;818", "c231;535;818,s2,",
            "c231;535;818,s2,k4,", "c231;535;818,s2,k4,b", " c231;535;818,s2,k4", "c231;535;818,S2,k4",
        };
        int[] places = {1, 1, 2, 2, 3, 3, 5, 7, 8, 12, 8, 14, 14, 13, 18, 24, 24, 0, 15, 12, 16, 19, 20, 0, 13};
        for (int k = 0; k < wrong.length; k++) {
            Due.is("canal " + wrong[k], Canals.take(new SkateBonds(), wrong[k]), -100 - places[k]);
        }
        SkateBonds x = new SkateBonds();
        x.sheet(0, 2, 60);
        Due.is("a code 0", x.canal(0, 2, 0, 60), -100);
        Due.is("no code", x.canal(0, 2, 60, 0), -100);
        Canals.write(x, 1, 2, "c454;99999;99999;99999;99999,s1,s1,s1,s1" + ",s1");
        Due.is("all of the longest", x.canal(1, 2, 0, 40), 4);
        Due.is("one code more", x.canal(1, 2, 0, 41), -140);
    }

    private static void canalRefusals() {
        Due.part("promise 2, refusals and faults");
        SkateBonds x = new SkateBonds();
        Canals.write(x, 1, 1, Canals.TEXT);
        int n = Canals.TEXT.length();
        refused("no sheet 4", x, x.canal(4, 3, 0, n), -1, 0);
        refused("no sheet -1", x, x.canal(-1, 1, 0, n), -1, 0);
        refused("lane 3", x, x.canal(1, 3, 0, -1), -2, 0);
        refused("lane -1", x, x.canal(0, -1, 0, n), -2, 0);
        refused("another lane", x, x.canal(1, 2, 0, -1), -12, 2);
        refused("another lane", x, x.canal(1, 0, 99, n), -12, 2);
        refused("nothing", x, x.canal(0, 0, 0, -1), -11, 1);
        refused("n -1", x, x.canal(1, 1, -1, -1), -14, 4);
        refused("the least n", x, x.canal(1, 1, 0, Integer.MIN_VALUE), -14, 4);
        refused("i -1", x, x.canal(1, 1, -1, 1), -13, 3);
        refused("i -1, none", x, x.canal(1, 1, -1, 0), -13, 3);
        refused("one more", x, x.canal(1, 1, 0, n + 1), -13, 3);
        refused("i beyond, none", x, x.canal(1, 1, n + 1, 0), -13, 3);
        refused("i at the end, none", x, x.canal(1, 1, n, 0), -100, 0);
        refused("far", x, x.canal(1, 1, 1, Integer.MAX_VALUE), -13, 3);
        refused("far", x, x.canal(1, 1, Integer.MAX_VALUE, Integer.MAX_VALUE), -13, 3);
        refused("far", x, x.canal(1, 1, Integer.MIN_VALUE, Integer.MAX_VALUE), -13, 3);
        Due.is("no canal yet", x.many(1), 0);
        Due.is("taken", x.canal(1, 1, 0, n), 3);
    }

    private static void refused(String what, SkateBonds x, int got, int want, int fault) {
        Due.is(what, got, want);
        Due.is("fault() of " + what, x.fault(), fault);
    }

    private static void canalMakesAnew() {
        Due.part("promise 2, anew");
        SkateBonds x = Canals.on(Canals.TEXT);
        x.reading(0, 0, false);
        x.freeze(0, 1);
        x.frost(9);
        x.tell(0);
        Canals.row(x, 0, 1, 7, 8);
        Due.is("canal", Canals.take(x, "c121;98,b1,k1"), 2);
        Due.is("READINGS", x.many(4), 0);
        Due.is("CELLS", x.many(1), 2);
        Due.is("FROST", x.many(3), 1);
        Due.is("strength(0)", x.strength(0), 9);
        Due.is("strength(2)", x.strength(2), -1);
        Due.is("skater 2", x.ofSkater(2, 0), -1);
        Due.is("weights(0)", x.weights(0), 1022);
        Due.is("TRACE stays", x.trace(), 1);
        Due.is("SHEETS stay", x.cell(0, 1, 1), 8);
        Due.is("the text stays", x.cell(3, 0, 2), 'c');
        Due.is("larger again", Canals.take(x, Canals.TEXT), 3);
        Due.is("strength(11)", x.strength(11), 9);
    }

    private static void canalRefusedChangesNothing() {
        Due.part("promise 2, refused");
        SkateBonds x = Canals.on(Canals.TEXT);
        x.reading(0, 0, false);
        x.freeze(1, 6);
        Due.is("canal", Canals.take(x, "c231;777;777,b9,k9;"), -118);
        Due.is("canal", Canals.take(x, "c45"), -103);
        Due.is("READINGS", x.many(4), 1);
        Due.is("CELLS", x.many(1), 12);
        Due.is("WIDE", x.many(2), 4);
        Due.is("FROST", x.many(3), 2);
        Due.is("SKATERS", x.many(0), 3);
        Due.is("strength(0)", x.strength(0), 9);
        Due.is("strength(1)", x.strength(1), 6);
        Due.is("ofSkater(0, 1)", x.ofSkater(0, 1), 3);
        Due.is("ofSkater(2, 0)", x.ofSkater(2, 0), 2);
    }

    private static void ofSkater() {
        Due.part("promise 3");
        SkateBonds x = Canals.on(Canals.TEXT);
        int light = Canals.set(0, 2, 3, 5, 6, 7, 8, 11);
        int heavy = Canals.set(0, 5, 6, 8, 11);
        int[][] want = {{0, 3, 3, light}, {1, 5, 6, heavy}, {2, 2, 6, heavy}};
        for (int a = 0; a < 3; a++) {
            for (int what = 0; what <= 3; what++) {
                Due.is("ofSkater(" + a + ", " + what + ")", x.ofSkater(a, what), want[a][what]);
            }
            Due.is("what 4", x.ofSkater(a, 4), SkateBonds.OUTSIDE);
            Due.is("what -1", x.ofSkater(a, -1), SkateBonds.OUTSIDE);
        }
        Due.is("no skater", x.ofSkater(3, 4), SkateBonds.UNKNOWN);
        Due.is("no skater", x.ofSkater(-1, 0), SkateBonds.UNKNOWN);
        x.freeze(5, 5);
        x.freeze(10, 9);
        Due.is("as the ice is", x.ofSkater(1, 3), Canals.set(0, 6, 8, 10, 11));
        x = Canals.on("c129;99,s9,k9,b9,b4");
        int[] loads = {9, 10, 20, 10};
        int[] bear = {3, 0, 0, 0};
        for (int a = 0; a < 4; a++) {
            Due.is("LOAD of " + a, x.ofSkater(a, 2), loads[a]);
            Due.is("who BEARS " + a, x.ofSkater(a, 3), bear[a]);
        }
    }

    private static void strength() {
        Due.part("promise 4");
        SkateBonds x = Canals.on(Canals.TEXT);
        Due.is("strength(0)", x.strength(0), 9);
        Due.is("strength(4)", x.strength(4), 2);
        Due.is("strength(10)", x.strength(10), 0);
        Due.is("strength(11)", x.strength(11), 9);
        Due.is("strength(12)", x.strength(12), SkateBonds.UNKNOWN);
        Due.is("strength(-1)", x.strength(-1), SkateBonds.UNKNOWN);
        Due.is("strength(max)", x.strength(Integer.MAX_VALUE), SkateBonds.UNKNOWN);
        Due.is("strength(min)", x.strength(Integer.MIN_VALUE), SkateBonds.UNKNOWN);
    }

    private static void freeze() {
        Due.part("promise 5");
        SkateBonds x = Canals.on(Canals.TEXT);
        Due.is("freeze(11, 0)", x.freeze(11, 0), 9);
        Due.is("freeze(11, 9)", x.freeze(11, 9), 0);
        Due.is("strength(11)", x.strength(11), 9);
        Due.is("strength(10)", x.strength(10), 0);
        Due.is("freeze(11, 10)", x.freeze(11, 10), SkateBonds.OUTSIDE);
        Due.is("freeze(11, -1)", x.freeze(11, -1), SkateBonds.OUTSIDE);
        Due.is("freeze(12, 10)", x.freeze(12, 10), SkateBonds.UNKNOWN);
        Due.is("freeze(-1, 1)", x.freeze(-1, 1), SkateBonds.UNKNOWN);
        Due.is("strength(11)", x.strength(11), 9);
    }

    private static void frost() {
        Due.part("promise 6");
        SkateBonds x = new SkateBonds();
        Due.is("frost(10)", x.frost(10), SkateBonds.OUTSIDE);
        Due.is("frost(-1)", x.frost(-1), SkateBonds.OUTSIDE);
        Due.is("frost(9)", x.frost(9), SkateBonds.STATE);
        x = Canals.on(Canals.TEXT);
        Due.is("frost(9)", x.frost(9), 2);
        Due.is("frost(0)", x.frost(0), 9);
        Due.is("frost(10)", x.frost(10), SkateBonds.OUTSIDE);
        Due.is("frost(-1)", x.frost(-1), SkateBonds.OUTSIDE);
        Due.is("many(3)", x.many(3), 0);
    }

    private static void many() {
        Due.part("promise 31");
        SkateBonds x = new SkateBonds();
        Due.is("many(5)", x.many(5), SkateBonds.OUTSIDE);
        Due.is("many(-1)", x.many(-1), SkateBonds.OUTSIDE);
        Canals.take(x, "c4");
        for (int what = 0; what <= 4; what++) {
            Due.is("many(" + what + ") without a canal", x.many(what), 0);
        }
        Canals.take(x, Canals.TEXT);
        x.reading(0, 0, true);
        x.reading(0, 0, true);
        int[] want = {3, 12, 4, 2, 2};
        for (int what = 0; what <= 4; what++) {
            Due.is("many(" + what + ")", x.many(what), want[what]);
        }
        Due.is("many(5)", x.many(5), SkateBonds.OUTSIDE);
        Due.is("many(-1)", x.many(-1), SkateBonds.OUTSIDE);
    }
}
