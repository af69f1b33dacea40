/** Promises 15 to 19: what bore whom. */
public final class ReadingTest {
    private ReadingTest() {
    }

    public static void main(String[] args) {
        reading();
        back();
        weights();
        kinds();
        strengths();
        asStrongAsItIs();
        Due.end();
    }

    private static void reading() {
        Due.part("promise 15");
        SkateBonds x = Canals.on(Canals.TEXT);
        Due.is("no skater", x.reading(3, 0, true), SkateBonds.UNKNOWN);
        Due.is("no skater", x.reading(-1, 0, true), SkateBonds.UNKNOWN);
        Due.is("no cell", x.reading(0, 12, true), SkateBonds.UNKNOWN);
        Due.is("no cell", x.reading(0, -1, false), SkateBonds.UNKNOWN);
        for (int k = 0; k < 8; k++) {
            Due.is("reading " + k, x.reading(k % 3, k, k % 2 == 0), k);
            Due.is("many(4)", x.many(4), k + 1);
        }
        Due.is("a ninth", x.reading(0, 0, true), SkateBonds.FULL);
        Due.is("unknown ahead of full", x.reading(3, 0, true), SkateBonds.UNKNOWN);
        Due.is("unknown ahead of full", x.reading(0, 12, true), SkateBonds.UNKNOWN);
        Due.is("many(4)", x.many(4), 8);
    }

    private static void back() {
        Due.part("promise 16");
        SkateBonds x = Canals.on(Canals.TEXT);
        Due.is("back(0)", x.back(0), 0);
        Due.is("back(1) of none", x.back(1), SkateBonds.OUTSIDE);
        x.reading(0, 2, true);
        x.reading(0, 7, true);
        x.reading(0, 7, false);
        Due.is("back(-1)", x.back(-1), SkateBonds.OUTSIDE);
        Due.is("back(4)", x.back(4), SkateBonds.OUTSIDE);
        Due.is("all stay", x.many(4), 3);
        Due.is("by all", x.weights(0), 0);
        Due.is("back(1)", x.back(1), 2);
        Due.is("by two", x.weights(0), Canals.set(1, 2, 3));
        Due.is("the next one", x.reading(0, 0, true), 2);
        Due.is("back(3)", x.back(3), 0);
        Due.is("many(4)", x.many(4), 0);
        Due.is("by none", x.weights(0), 1022);
    }

    private static void weights() {
        Due.part("promise 17");
        SkateBonds x = Canals.on(Canals.TEXT);
        Due.is("by none", x.weights(2), 1022);
        x.reading(0, 2, true);
        Due.is("a skater", x.weights(0), Canals.set(1, 2, 3));
        Due.is("another one", x.weights(1), 1022);
        x.reading(1, 6, true);
        Due.is("a clerk", x.weights(1), Canals.set(1, 2, 3, 4, 5));
        x.reading(2, 6, true);
        Due.is("a banker", x.weights(2), Canals.set(1, 2));
        x.reading(1, 7, false);
        Due.is("not by 4", x.weights(1), Canals.set(4, 5));
        Due.is("the weight stays", x.ofSkater(1, 1), 5);
        x.reading(0, 7, false);
        Due.is("4 does bear 3", x.weights(0), 0);
        Due.is("by one that is not so", x.weights(1), 0);
        Due.is("no skater", x.weights(3), SkateBonds.UNKNOWN);
        Due.is("no skater", x.weights(-1), SkateBonds.UNKNOWN);
        x = Canals.on("c120;90,s9,k9");
        x.reading(0, 0, true);
        x.reading(1, 0, false);
        Due.is("all weights", x.weights(0), 1022);
        Due.is("9 alone", x.weights(1), Canals.set(9));
    }

    private static void kinds() {
        Due.part("promise 18");
        SkateBonds x = Canals.on(Canals.TEXT);
        Due.is("by none", x.kinds(0), 7);
        x.reading(0, 2, true);
        Due.is("3 bears weight 3", x.kinds(0), Canals.set(0));
        Due.is("another one", x.kinds(1), 7);
        x.reading(1, 6, true);
        Due.is("6 bears weight 5", x.kinds(1), Canals.set(0, 1));
        x.reading(2, 6, true);
        Due.is("6 bears weight 2", x.kinds(2), 7);
        x.reading(2, 2, false);
        Due.is("3 does not", x.kinds(2), Canals.set(2));
        Due.is("the kind stays", x.ofSkater(2, 0), 2);
        x.reading(0, 0, false);
        Due.is("by one that is not so", x.kinds(1), 0);
        Due.is("no skater", x.kinds(3), SkateBonds.UNKNOWN);
        Due.is("no skater", x.kinds(-1), SkateBonds.UNKNOWN);
    }

    private static void strengths() {
        Due.part("promise 19");
        SkateBonds x = Canals.on(Canals.TEXT);
        Due.is("by none", x.strengths(0), 1023);
        x.reading(0, 2, true);
        Due.is("bore 3", x.strengths(2), Canals.set(3, 4, 5, 6, 7, 8, 9));
        Due.is("another one", x.strengths(3), 1023);
        x.reading(1, 2, false);
        Due.is("did not bear 6", x.strengths(2), Canals.set(3, 4, 5));
        Due.is("the strength stays", x.strength(2), 3);
        x.reading(1, 7, true);
        Due.is("in place of 4", x.strengths(7), Canals.set(6, 7, 8, 9));
        Due.is("by one that is not so", x.strengths(2), 0);
        Due.is("no cell", x.strengths(12), SkateBonds.UNKNOWN);
        Due.is("no cell", x.strengths(-1), SkateBonds.UNKNOWN);
        x = Canals.on("c120;90,s1,k9");
        x.reading(1, 0, true);
        Due.is("10 is too much", x.strengths(0), 0);
        x.back(1);
        x.reading(0, 1, false);
        Due.is("0 alone", x.strengths(1), Canals.set(0));
    }

    private static void asStrongAsItIs() {
        Due.part("promises 15 to 19, as strong as it is");
        SkateBonds x = Canals.on(Canals.TEXT);
        x.reading(0, 2, true);
        x.freeze(2, 5);
        Due.is("weights(0)", x.weights(0), Canals.set(1, 2, 3, 4, 5));
        Due.is("kinds(0)", x.kinds(0), Canals.set(0, 1));
        x.thaw(3);
        Due.is("weights(0)", x.weights(0), Canals.set(1, 2));
        Due.is("kinds(0)", x.kinds(0), 0);
        x.nights(1);
        Due.is("weights(0)", x.weights(0), Canals.set(1, 2, 3, 4));
        Due.is("strengths(2)", x.strengths(2), Canals.set(3, 4, 5, 6, 7, 8, 9));
    }
}
