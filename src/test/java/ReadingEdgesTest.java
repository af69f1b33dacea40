/** The edges of what bore whom (==== 4 and promises 15 to 19). */
public final class ReadingEdgesTest {
    private static final int MIN = Integer.MIN_VALUE;
    private static final int MAX = Integer.MAX_VALUE;

    private ReadingEdgesTest() {
    }

    public static void main(String[] args) {
        numberedByHowManyThereAre();
        eightAtMost();
        ninthAfterOneIsTakenBack();
        readingRefusals();
        readingFull();
        backByAsManyAsThereAre();
        backTakesTheLast();
        backRefusals();
        weightsByNone();
        weightsOfEachKind();
        weightsBetween();
        weightsOfNobody();
        kindsByNone();
        kindsOfEachWeight();
        strengthsByNone();
        strengthsOfEachLoad();
        inPlaceOfWhatItIsAlone();
        byAllReadings();
        asStrongAsItIs();
        asHeavyAsTheyAre();
        followsRefusals();
        followsChangeNothing();
        Due.end();
    }

    private static void numberedByHowManyThereAre() {
        Due.part("==== 4: READINGS, numbered by how many there are");
        SkateBonds x = Canals.on(Canals.TEXT);
        x.put(0, 0, 0);
        for (int k = 0; k < 8; k++) {
            Due.is("many(4)", x.many(4), k);
            // The same one again is one more.
            Due.is("reading " + k, x.reading(0, 0, true), k);
        }
        Due.is("many(4)", x.many(4), 8);
        Due.is("fault() stays", x.fault(), 1);
    }

    private static void eightAtMost() {
        Due.part("==== 4: READINGS, 8 at most");
        SkateBonds x = Canals.on(Canals.TEXT);
        for (int k = 0; k < 7; k++) {
            x.reading(k % 3, k, false);
        }
        Due.is("the eighth", x.reading(2, 11, true), 7);
        Due.is("a ninth", x.reading(2, 11, true), SkateBonds.FULL);
        Due.is("a ninth, another one", x.reading(0, 0, false), SkateBonds.FULL);
        Due.is("many(4)", x.many(4), 8);
    }

    private static void ninthAfterOneIsTakenBack() {
        Due.part("promise 15: FULL, until one is taken back");
        SkateBonds x = Canals.on(Canals.TEXT);
        for (int k = 0; k < 8; k++) {
            x.reading(0, 2, true);
        }
        Due.is("full", x.reading(0, 2, false), SkateBonds.FULL);
        Due.is("back(0)", x.back(0), 8);
        Due.is("full yet", x.reading(0, 2, false), SkateBonds.FULL);
        Due.is("by eight that are so", x.weights(0), Canals.set(1, 2, 3));
        Due.is("back(1)", x.back(1), 7);
        Due.is("one more", x.reading(0, 2, false), 7);
        Due.is("by one that is not so", x.weights(0), 0);
        Due.is("back(8)", x.back(8), 0);
        Due.is("the first again", x.reading(0, 2, true), 0);
    }

    private static void readingRefusals() {
        Due.part("promise 15, UNKNOWN: SKATER, CELL");
        for (boolean bore : new boolean[] {false, true}) {
            Fresh.FULL.unknown("reading", SkateBonds.UNKNOWN, 0, 3, 0, 0, bore);
            Fresh.FULL.unknown("reading", SkateBonds.UNKNOWN, 1, 12, 0, 0, bore);
            Fresh.NEW.changesNothing("reading", SkateBonds.UNKNOWN, 0, 0, bore);
        }
    }

    private static void readingFull() {
        Due.part("promise 15, FULL, of several the first in the order told");
        Fresh full = new Fresh(() -> {
            SkateBonds x = Fresh.full();
            for (int k = 0; k < 5; k++) {
                x.reading(0, 0, true);
            }
            return x;
        });
        full.changesNothing("reading", SkateBonds.FULL, 0, 0, true);
        full.changesNothing("reading", SkateBonds.FULL, 2, 11, false);
        full.changesNothing("reading", SkateBonds.UNKNOWN, 3, 0, true);
        full.changesNothing("reading", SkateBonds.UNKNOWN, 0, 12, true);
        full.changesNothing("reading", SkateBonds.UNKNOWN, -1, -1, false);
    }

    private static void backByAsManyAsThereAre() {
        Due.part("promise 16: k (0 .. as many as there are): how many are left");
        for (int count = 0; count <= 8; count++) {
            for (int k = -1; k <= 9; k++) {
                SkateBonds x = Canals.on(Canals.TEXT);
                for (int r = 0; r < count; r++) {
                    x.reading(0, 0, true);
                }
                boolean isTaken = k >= 0 && k <= count;
                Due.is("back(" + k + ") of " + count, x.back(k), isTaken ? count - k : SkateBonds.OUTSIDE);
                Due.is("many(4)", x.many(4), isTaken ? count - k : count);
            }
        }
    }

    private static void backTakesTheLast() {
        Due.part("promise 16: the last k READINGS");
        int[] byAsMany = {1022, 1022, 510, 254, 126, 62, 30, 14, 6};
        for (int k = 0; k <= 8; k++) {
            // Cells that bear 9, 8, .. 2: each READING but the first leaves one WEIGHT less.
            SkateBonds x = Canals.on("c240;9876;5432,s1,s1");
            for (int c = 0; c < 8; c++) {
                x.reading(0, c, true);
            }
            Due.is("back(" + k + ")", x.back(k), 8 - k);
            Due.is("weights(0) then", x.weights(0), byAsMany[8 - k]);
        }
    }

    private static void backRefusals() {
        Due.part("promise 16, refusals");
        Fresh.FULL.unknown("back", SkateBonds.OUTSIDE, 0, 4, 0);
        Fresh.NEW.unknown("back", SkateBonds.OUTSIDE, 0, 1, 0);
        Fresh.FULL.changesNothing("back", 3, 0);
        Fresh.NEW.changesNothing("back", 0, 0);
    }

    private static void weightsByNone() {
        Due.part("==== 4: WEIGHTS of a SKATER: 1 .. 9, without READINGS");
        SkateBonds x = Canals.on("c240;0000;0000,s1,k5,b9,s9");
        for (int a = 0; a < 4; a++) {
            Due.is("weights(" + a + ")", x.weights(a), Canals.set(1, 2, 3, 4, 5, 6, 7, 8, 9));
        }
    }

    private static int loadOf(int kind, int weight) {
        return kind == 0 ? weight : kind == 1 ? weight + 1 : 2 * weight + 2;
    }

    private static void weightsOfEachKind() {
        Due.part("==== 4: WEIGHTS, by which a READING is so");
        for (int strong = 0; strong <= 9; strong++) {
            for (int kind = 0; kind <= 2; kind++) {
                int bore = 0;
                for (int weight = 1; weight <= 9; weight++) {
                    bore |= loadOf(kind, weight) <= strong ? 1 << weight : 0;
                }
                SkateBonds x = Canals.on("c120;" + strong + "0,s5,k5,b5");
                x.reading(kind, 0, true);
                Due.is("bore kind " + kind + " at " + strong, x.weights(kind), bore);
                x.back(1);
                x.reading(kind, 0, false);
                Due.is("did not bear kind " + kind + " at " + strong, x.weights(kind), 1022 & ~bore);
                x.reading(kind, 0, true);
                Due.is("both", x.weights(kind), 0);
            }
        }
    }

    private static void weightsBetween() {
        Due.part("==== 4: WEIGHTS, by which all READINGS are so");
        SkateBonds x = Canals.on("c250;01234;56789,s5,k5,b3");
        for (int a = 0; a < 3; a++) {
            int[] firsts = {4, 5, 7};
            x.reading(a, firsts[a], false);
            x.reading(a, firsts[a] + 1, true);
            int[] want = {Canals.set(5), Canals.set(5), Canals.set(3)};
            Due.is("one alone", x.weights(a), want[a]);
            x.back(2);
        }
        x.reading(0, 1, false);
        x.reading(0, 8, true);
        Due.is("2 .. 8", x.weights(0), Canals.set(2, 3, 4, 5, 6, 7, 8));
        x.back(2);
        x.reading(0, 9, true);
        Due.is("9, too", x.weights(0), 1022);
        x.reading(0, 8, false);
        Due.is("9 alone", x.weights(0), Canals.set(9));
        x.back(2);
        x.reading(0, 1, true);
        Due.is("1 alone", x.weights(0), Canals.set(1));
    }

    private static void weightsOfNobody() {
        Due.part("==== 4: WEIGHTS, none");
        SkateBonds x = Canals.on("c120;09,s5,k5,b5");
        x.reading(0, 0, true);
        Due.is("0 bore none", x.weights(0), 0);
        Due.is("so all others are without", x.weights(1), 0);
        x.back(1);
        x.reading(0, 1, false);
        Due.is("9 bears each skater", x.weights(0), 0);
    }

    private static void kindsByNone() {
        Due.part("==== 4: KINDS of a SKATER: 0 .. 2, without READINGS");
        SkateBonds x = Canals.on("c240;0000;0000,s1,k5,b9,s9");
        for (int a = 0; a < 4; a++) {
            Due.is("kinds(" + a + ")", x.kinds(a), Canals.set(0, 1, 2));
        }
    }

    private static void kindsOfEachWeight() {
        Due.part("==== 4: KINDS, by which a READING is so");
        for (int strong = 0; strong <= 9; strong++) {
            for (int weight = 1; weight <= 9; weight++) {
                int bore = 0;
                for (int kind = 0; kind <= 2; kind++) {
                    bore |= loadOf(kind, weight) <= strong ? 1 << kind : 0;
                }
                SkateBonds x = Canals.on("c120;" + strong + "0,s" + weight + ",k" + weight + ",b" + weight);
                for (int a = 0; a < 3; a++) {
                    x.reading(a, 0, true);
                    Due.is("bore WEIGHT " + weight + " at " + strong, x.kinds(a), bore);
                    x.back(1);
                    x.reading(a, 0, false);
                    Due.is("did not bear WEIGHT " + weight + " at " + strong, x.kinds(a), 7 & ~bore);
                    x.reading(a, 0, true);
                    Due.is("both", x.kinds(a), 0);
                    x.back(2);
                }
            }
        }
    }

    private static void strengthsByNone() {
        Due.part("==== 4: STRENGTHS of a CELL: 0 .. 9, without READINGS");
        SkateBonds x = Canals.on("c450;01234;56789;01234;56789,s1,k5,b9,s9");
        for (int c = 0; c < 20; c++) {
            Due.is("strengths(" + c + ")", x.strengths(c), Canals.set(0, 1, 2, 3, 4, 5, 6, 7, 8, 9));
        }
    }

    private static void strengthsOfEachLoad() {
        Due.part("==== 4: STRENGTHS, by which a READING is so");
        for (int weight = 1; weight <= 9; weight++) {
            for (int kind = 0; kind <= 2; kind++) {
                int bore = 0;
                for (int strong = loadOf(kind, weight); strong <= 9; strong++) {
                    bore |= 1 << strong;
                }
                SkateBonds x = Canals.on("c120;50,s1," + "skb".charAt(kind) + weight);
                x.reading(1, 1, true);
                Due.is("bore LOAD " + loadOf(kind, weight), x.strengths(1), bore);
                x.back(1);
                x.reading(1, 1, false);
                Due.is("did not bear LOAD " + loadOf(kind, weight), x.strengths(1), 1023 & ~bore);
                x.reading(1, 1, true);
                Due.is("both", x.strengths(1), 0);
            }
        }
        SkateBonds x = Canals.on("c120;50,s3,k5");
        x.reading(0, 0, true);
        x.reading(1, 0, false);
        Due.is("between LOADS 3 and 6", x.strengths(0), Canals.set(3, 4, 5));
    }

    private static void inPlaceOfWhatItIsAlone() {
        Due.part("==== 4: in place of what it is alone");
        // Skater 0 is borne by cell 0 as they are; skater 1 is not borne by cell 1 as they are.
        SkateBonds x = Canals.on("c120;53,s5,k3");
        x.reading(0, 0, true);
        x.reading(1, 1, false);
        Due.is("weights(0)", x.weights(0), Canals.set(1, 2, 3, 4, 5));
        Due.is("weights(1)", x.weights(1), Canals.set(3, 4, 5, 6, 7, 8, 9));
        Due.is("kinds(0)", x.kinds(0), Canals.set(0));
        Due.is("kinds(1)", x.kinds(1), Canals.set(1, 2));
        Due.is("strengths(0)", x.strengths(0), Canals.set(5, 6, 7, 8, 9));
        Due.is("strengths(1)", x.strengths(1), Canals.set(0, 1, 2, 3));
        // The WEIGHT stands for them in each READING, on whatever cell.
        x.reading(0, 1, false);
        Due.is("weights(0), by two cells", x.weights(0), Canals.set(4, 5));
        Due.is("strengths(1), by two skaters", x.strengths(1), Canals.set(0, 1, 2, 3));
        x.reading(1, 0, true);
        Due.is("weights(1), by two cells", x.weights(1), Canals.set(3, 4));
        Due.is("strengths(0), by two skaters", x.strengths(0), Canals.set(5, 6, 7, 8, 9));
    }

    private static void byAllReadings() {
        Due.part("==== 4: by which all READINGS are so: also those of others");
        for (int place = 0; place < 8; place++) {
            SkateBonds x = Canals.on("c120;55,s5,s6,s7");
            for (int k = 0; k < 8; k++) {
                // Cell 1 did not bear skater 1; only in one place it is told that it did.
                x.reading(1, 1, k == place);
                boolean isSo = k < place;
                Due.is("weights(0) by " + (k + 1), x.weights(0), isSo ? 1022 : 0);
                Due.is("kinds(0) by " + (k + 1), x.kinds(0), isSo ? 7 : 0);
                Due.is("strengths(0) by " + (k + 1), x.strengths(0), isSo ? 1023 : 0);
            }
        }
    }

    private static void asStrongAsItIs() {
        Due.part("==== 4: a CELL (as strong as it is)");
        SkateBonds x = Canals.on("c121;50,s5,s1");
        x.reading(0, 0, true);
        for (int strong = 0; strong <= 9; strong++) {
            x.freeze(0, strong);
            int set = (1 << (strong + 1)) - 2;
            Due.is("weights(0) at " + strong, x.weights(0), set);
            Due.is("kinds(0) at " + strong, x.kinds(0), strong < 5 ? 0 : strong == 5 ? 1 : 3);
            Due.is("strengths(0) at " + strong, x.strengths(0), Canals.set(5, 6, 7, 8, 9));
        }
        x.thaw(9);
        Due.is("behind a THAW", x.weights(0), 0);
        x.nights(4);
        Due.is("behind NIGHTS", x.weights(0), Canals.set(1, 2, 3, 4));
        Canals.row(x, 1, 0, 3);
        x.freeze(0, 5);
        Due.is("written", x.write(0, 1, 1, 1, 0, 0, 1), 1);
        Due.is("behind a CUT", x.weights(0), Canals.set(1, 2, 3, 4));
    }

    private static void asHeavyAsTheyAre() {
        Due.part("==== 4: a READING of a SKATER, of each kind, as heavy as they are");
        SkateBonds x = Canals.on("c150;56789,s5,k5,b2,s9");
        int[] loads = {5, 6, 6, 9};
        for (int a = 0; a < 4; a++) {
            for (int c = 0; c < 5; c++) {
                boolean bears = loads[a] <= c + 5;
                x.reading(a, c, bears);
                Due.is(a + " on " + c + ", so", x.weights((a + 1) % 4), 1022);
                x.back(1);
                x.reading(a, c, !bears);
                Due.is(a + " on " + c + ", not so", x.weights((a + 1) % 4), 0);
                x.back(1);
            }
        }
    }

    private static void followsRefusals() {
        Due.part("promises 17 to 19, UNKNOWN");
        Fresh.FULL.unknown("weights", SkateBonds.UNKNOWN, 0, 3, 0);
        Fresh.FULL.unknown("kinds", SkateBonds.UNKNOWN, 0, 3, 0);
        Fresh.FULL.unknown("strengths", SkateBonds.UNKNOWN, 0, 12, 0);
        Fresh.NEW.unknown("weights", SkateBonds.UNKNOWN, 0, 0, 0);
        Fresh.NEW.unknown("kinds", SkateBonds.UNKNOWN, 0, 0, 0);
        Fresh.NEW.unknown("strengths", SkateBonds.UNKNOWN, 0, 0, 0);
        SkateBonds x = Canals.on("c450;99999;99999;99999;99999,s1,s2,s3,s4");
        for (int wrong : new int[] {4, MIN, MAX}) {
            Due.is("weights(" + wrong + ")", x.weights(wrong), SkateBonds.UNKNOWN);
            Due.is("kinds(" + wrong + ")", x.kinds(wrong), SkateBonds.UNKNOWN);
        }
        Due.is("weights(3)", x.weights(3), 1022);
        Due.is("kinds(3)", x.kinds(3), 7);
        Due.is("strengths(19)", x.strengths(19), 1023);
        Due.is("strengths(20)", x.strengths(20), SkateBonds.UNKNOWN);
    }

    private static void followsChangeNothing() {
        Due.part("promises 17 to 19: what is asked alone changes nothing");
        Fresh so = new Fresh(() -> {
            SkateBonds x = Fresh.full();
            x.frost(3);
            return x;
        });
        for (int a = 0; a < 3; a++) {
            int[] weights = {Canals.set(1, 2, 3), Canals.set(4, 5, 6, 7, 8, 9), 1022};
            int[] kinds = {Canals.set(0), Canals.set(0, 1, 2), Canals.set(0, 1, 2)};
            so.changesNothing("weights", weights[a], a);
            so.changesNothing("kinds", kinds[a], a);
        }
        so.changesNothing("strengths", Canals.set(3, 4, 5, 6, 7, 8, 9), 2);
        so.changesNothing("strengths", Canals.set(0, 1, 2, 3, 4, 5), 7);
        so.changesNothing("strengths", Canals.set(0, 1, 2, 3, 4, 5), 10);
        so.changesNothing("strengths", 1023, 0);
    }
}
