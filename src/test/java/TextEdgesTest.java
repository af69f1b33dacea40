/** The edges of a TEXT (==== 1 and promise 2): which codes it may have, its FIRST FAULT, what it makes anew. */
public final class TextEdgesTest {
    /** The longest one: 40 codes; with three, two SKATERS 37, 34. */
    private static final String LONGEST = "c454;99999;99999;99999;99999,s1,k2,b3,s4";
    /** The shortest one: 13 codes. */
    private static final String SHORTEST = "c120;55,s1,s1";

    private TextEdgesTest() {
    }

    public static void main(String[] args) {
        firstCode();
        high();
        wide();
        frost();
        semicolons();
        asManyRowsAsHigh();
        asManyDigitsAsWide();
        strengths();
        numberedByRows();
        twoToFourSkaters();
        commas();
        letters();
        weights();
        endsTooSoon();
        behindTheEnd();
        firstOfSeveral();
        codesAreNumbers();
        partOfARow();
        takenBehindAFault();
        canalRefusals();
        canalRefusedForSeveral();
        canalOfNoCodes();
        faultyTextChangesNothing();
        makesAllAnew();
        staysOverATaken();
        Due.end();
    }

    private static void text(String text, int want) {
        SkateBonds x = new SkateBonds();
        Due.is("canal of " + text, Canals.take(x, text), want);
        Due.is("fault() behind it", x.fault(), 0);
        Due.is("SKATERS of it", x.many(0), Math.max(0, want));
    }

    private static String with(String text, int place, int code) {
        return text.substring(0, place) + (char) code + text.substring(place + 1);
    }

    private static String rows(int high, int wide, String skaters) {
        return "c" + high + wide + "3" + (";" + "77777".substring(0, wide)).repeat(high) + skaters;
    }

    private static void firstCode() {
        Due.part("==== 1: c");
        for (int code = 0; code < 128; code++) {
            text(with(SHORTEST, 0, code), code == 99 ? 2 : -100);
        }
    }

    private static void high() {
        Due.part("==== 1: a digit 1 .. 4 (HIGH)");
        for (int code = 0; code < 128; code++) {
            boolean isHigh = code >= '1' && code <= '4';
            text(with(rows(isHigh ? code - '0' : 1, 2, ",s1,s1"), 1, code), isHigh ? 2 : -101);
        }
    }

    private static void wide() {
        Due.part("==== 1: a digit 2 .. 5 (WIDE)");
        for (int code = 0; code < 128; code++) {
            boolean isWide = code >= '2' && code <= '5';
            text(with(rows(2, isWide ? code - '0' : 2, ",s1,s1"), 2, code), isWide ? 2 : -102);
        }
    }

    private static void frost() {
        Due.part("==== 1: a digit 0 .. 9 (FROST)");
        for (int code = 0; code < 128; code++) {
            boolean isFrost = code >= '0' && code <= '9';
            SkateBonds x = new SkateBonds();
            Due.is("code " + code, Canals.take(x, with(SHORTEST, 3, code)), isFrost ? 2 : -103);
            Due.is("FROST of code " + code, x.many(3), isFrost ? code - '0' : 0);
        }
    }

    private static void semicolons() {
        Due.part("==== 1: then HIGH times: ;");
        for (int high = 1; high <= 4; high++) {
            for (int row = 0; row < high; row++) {
                int place = 4 + row * 4;
                for (int code : new int[] {58, 60, ',', '7', 'c', 0, 127}) {
                    text(with(rows(high, 3, ",s1,s1"), place, code), -100 - place);
                }
            }
        }
    }

    private static void asManyRowsAsHigh() {
        Due.part("==== 1: HIGH times");
        for (int high = 1; high <= 4; high++) {
            for (int wide = 2; wide <= 5; wide++) {
                for (int rows = 0; rows <= 5; rows++) {
                    String text = with(rows(rows, wide, ",s1,s1"), 1, '0' + high);
                    // The place of the , that comes too soon, or of the ; of a row too many.
                    int place = 4 + Math.min(rows, high) * (wide + 1);
                    text(text, rows == high ? 2 : -100 - place);
                }
            }
        }
    }

    private static void asManyDigitsAsWide() {
        Due.part("==== 1: WIDE digits");
        for (int wide = 2; wide <= 5; wide++) {
            String digits = "777777".substring(0, wide);
            String[] wrong = {digits.substring(1), digits + "7"};
            int[] places = {5 + wide - 1, 5 + wide};
            for (int k = 0; k < wrong.length; k++) {
                text("c1" + wide + "0;" + wrong[k] + ",s1,s1", -100 - places[k]);
                text("c2" + wide + "0;" + wrong[k] + ";" + digits + ",s1,s1", -100 - places[k]);
                text("c2" + wide + "0;" + digits + ";" + wrong[k] + ",s1,s1", -100 - places[k] - wide - 1);
            }
            text("c1" + wide + "0;" + digits + ",s1,s1", 2);
        }
    }

    private static void strengths() {
        Due.part("==== 1: digits 0 .. 9 (STRENGTH of CELLS)");
        String text = rows(4, 5, ",s1,s1");
        for (int c = 0; c < 20; c++) {
            int place = 5 + c + c / 5;
            for (int strong = 0; strong <= 9; strong++) {
                SkateBonds x = new SkateBonds();
                Due.is("canal", Canals.take(x, with(text, place, '0' + strong)), 2);
                for (int other = 0; other < 20; other++) {
                    Due.is("strength(" + other + ")", x.strength(other), other == c ? strong : 7);
                }
            }
            for (int code : new int[] {47, 58, ';', ',', 's', 0, 127}) {
                text(with(text, place, code), -100 - place);
            }
        }
    }

    private static void numberedByRows() {
        Due.part("==== 1: numbered from 0 on by rows from above, in a row from the left");
        SkateBonds x = new SkateBonds();
        Due.is("canal", Canals.take(x, "c430;012;345;678;907,s1,s1"), 2);
        for (int c = 0; c < 12; c++) {
            Due.is("strength(" + c + ")", x.strength(c), "012345678907".charAt(c) - '0');
        }
        Due.is("strength(12)", x.strength(12), SkateBonds.UNKNOWN);
    }

    private static void twoToFourSkaters() {
        Due.part("==== 1: 2 to 4 SKATERS");
        text("c120;55", -107);
        text("c120;55,s1", -110);
        text("c120;55,s1,s2", 2);
        text("c120;55,s1,s2,s3", 3);
        text("c120;55,s1,s2,s3,s4", 4);
        Due.part("==== 1: the , of a fifth SKATER");
        text("c120;55,s1,s2,s3,s4,", -119);
        text("c120;55,s1,s2,s3,s4,s", -119);
        text("c120;55,s1,s2,s3,s4,s5", -119);
        text("c120;55,s1,s2,s3,s4,s5,s6", -119);
        text(LONGEST, 4);
        text(LONGEST + ",s5", -140);
        Due.part("==== 1: SKATERS, numbered from 0 on");
        SkateBonds x = new SkateBonds();
        Canals.take(x, LONGEST);
        int[] kinds = {0, 1, 2, 0};
        for (int a = 0; a < 4; a++) {
            Due.is("kind of " + a, x.ofSkater(a, 0), kinds[a]);
            Due.is("WEIGHT of " + a, x.ofSkater(a, 1), a + 1);
        }
    }

    private static void commas() {
        Due.part("==== 1: each: ,");
        for (int a = 0; a < 4; a++) {
            int place = 28 + 3 * a;
            for (int code = 0; code < 128; code++) {
                text(with(LONGEST, place, code), code == ',' ? 4 : -100 - place);
            }
        }
    }

    private static void letters() {
        Due.part("==== 1: a letter; kinds");
        for (int a = 0; a < 4; a++) {
            int place = 29 + 3 * a;
            for (int code = 0; code < 128; code++) {
                SkateBonds x = new SkateBonds();
                int kind = code == 115 ? 0 : code == 107 ? 1 : code == 98 ? 2 : SkateBonds.UNKNOWN;
                int want = kind >= 0 ? 4 : -100 - place;
                Due.is("code " + code + " of SKATER " + a, Canals.take(x, with(LONGEST, place, code)), want);
                Due.is("kind by code " + code + " of SKATER " + a, x.ofSkater(a, 0), kind);
            }
        }
    }

    private static void weights() {
        Due.part("==== 1: a digit 1 .. 9 (WEIGHT)");
        for (int a = 0; a < 4; a++) {
            int place = 30 + 3 * a;
            for (int code = 0; code < 128; code++) {
                SkateBonds x = new SkateBonds();
                boolean isWeight = code >= '1' && code <= '9';
                int want = isWeight ? 4 : -100 - place;
                Due.is("code " + code + " of SKATER " + a, Canals.take(x, with(LONGEST, place, code)), want);
                Due.is("WEIGHT by code " + code, x.ofSkater(a, 1), isWeight ? code - '0' : SkateBonds.UNKNOWN);
            }
        }
    }

    private static void endsTooSoon() {
        Due.part("==== 1: how many codes there are, if it just ends too soon");
        for (int n = 0; n <= LONGEST.length(); n++) {
            int skaters = n == 34 ? 2 : n == 37 ? 3 : n == 40 ? 4 : 0;
            text(LONGEST.substring(0, n), skaters > 0 ? skaters : -100 - n);
        }
        for (int n = 0; n <= SHORTEST.length(); n++) {
            text(SHORTEST.substring(0, n), n == 13 ? 2 : -100 - n);
        }
    }

    private static void behindTheEnd() {
        Due.part("==== 1: the first code with which no TEXT goes on, behind a TEXT");
        for (int code = 0; code < 128; code++) {
            text(SHORTEST + (char) code, code == ',' ? -114 : -113);
            text(LONGEST + (char) code, -140);
            text(SHORTEST + ",k9" + (char) code, code == ',' ? -117 : -116);
        }
    }

    private static void firstOfSeveral() {
        Due.part("==== 1: the first code");
        for (int place = 0; place < LONGEST.length(); place++) {
            String text = LONGEST.substring(0, place) + "x".repeat(LONGEST.length() - place);
            text(text, -100 - place);
        }
        text("c999", -101);
        text("c1", -102);
        text("c19", -102);
    }

    private static void codesAreNumbers() {
        Due.part("==== 5: what comes to a cell is cut; promise 2: n cells taken as codes");
        int[] more = {256, 65536, 1 << 24};
        for (int lane = 0; lane <= 2; lane++) {
            for (int k = 0; k < more.length; k++) {
                for (int place = 0; place < SHORTEST.length(); place++) {
                    SkateBonds x = new SkateBonds();
                    Canals.write(x, 0, lane, SHORTEST);
                    x.put(0, place, SHORTEST.charAt(place) + more[k]);
                    boolean isCut = lane == 0 || lane == 1 && k > 0;
                    Due.is("lane " + lane + ", place " + place, x.canal(0, lane, 0, 13), isCut ? 2 : -100 - place);
                }
            }
        }
        for (int v : new int[] {-1, -99, Integer.MIN_VALUE, Integer.MAX_VALUE}) {
            for (int place = 0; place < SHORTEST.length(); place++) {
                SkateBonds x = new SkateBonds();
                Canals.write(x, 0, 2, SHORTEST);
                x.put(0, place, v);
                Due.is(v + " at " + place, x.canal(0, 2, 0, 13), -100 - place);
            }
        }
    }

    private static void partOfARow() {
        Due.part("promise 2: n cells of a SHEET from i on");
        String row = "c12" + "0".repeat(44) + SHORTEST;
        for (int k = 0; k <= 3; k++) {
            SkateBonds x = new SkateBonds();
            Canals.write(x, k, 0, row);
            Due.is("the last 13 of 60", x.canal(k, 0, 47, 13), 2);
            Due.is("one too far", x.canal(k, 0, 48, 13), -13);
            Due.is("one too many", x.canal(k, 0, 47, 14), -13);
            Due.is("one too few", x.canal(k, 0, 47, 12), -112);
            Due.is("one too soon", x.canal(k, 0, 46, 13), -100);
            Due.is("the canal stays", x.many(1), 2);
        }
        SkateBonds x = new SkateBonds();
        Canals.write(x, 0, 2, LONGEST + " ".repeat(20));
        Due.is("all 60", x.canal(0, 2, 0, 60), -140);
        Due.is("the first 40 of 60", x.canal(0, 2, 0, 40), 4);
        Canals.write(x, 1, 2, "c45" + "0".repeat(57));
        Due.is("60 more", x.canal(1, 2, 0, 60), -104);
    }

    private static void takenBehindAFault() {
        Due.part("promise 2: a TEXT is taken behind one that is not");
        for (int n = 0; n < LONGEST.length(); n++) {
            if (n != 34 && n != 37) {
                SkateBonds x = new SkateBonds();
                Canals.write(x, 0, 0, LONGEST);
                Canals.write(x, 1, 1, SHORTEST);
                Due.is("faulty, of " + n, x.canal(0, 0, 0, n), -100 - n);
                Due.is("the shortest", x.canal(1, 1, 0, 13), 2);
                Due.is("CELLS", x.many(1), 2);
                Due.is("faulty, of " + n, x.canal(0, 0, 0, n), -100 - n);
                Due.is("CELLS stay", x.many(1), 2);
                Due.is("the longest", x.canal(0, 0, 0, 40), 4);
                Due.is("CELLS", x.many(1), 20);
            }
        }
    }

    private static void canalRefusals() {
        Due.part("promise 2, refusals and FAULTS");
        Fresh.FULL.unknownOfFaulting("canal", SkateBonds.UNKNOWN, 0, 4, 3, 2, 0, 28);
        Fresh.FULL.unknownOfFaulting("canal", SkateBonds.OUTSIDE, 1, 3, 3, 2, 0, 28);
        Fresh.NEW.unknownOfFaulting("canal", SkateBonds.UNKNOWN, 0, 4, 3, 2, 0, 28);
        Fresh.NEW.unknownOfFaulting("canal", SkateBonds.OUTSIDE, 1, 3, 3, 2, 0, 28);
        int[] lanes = {0, 1, -1, 2};
        for (int k = 0; k <= 3; k++) {
            for (int lane = 0; lane <= 2; lane++) {
                Fresh.NEW.faults("canal", 1, k, lane, 0, 0);
                if (lanes[k] == -1) {
                    Fresh.FULL.faults("canal", 1, k, lane, 0, 0);
                } else if (lanes[k] != lane) {
                    Fresh.FULL.faults("canal", 2, k, lane, 0, 0);
                } else {
                    Fresh.FULL.refused("canal", -100, k, lane, 0, 0);
                }
            }
        }
        Fresh.FULL.faults("canal", 4, 3, 2, 0, -1);
        Fresh.FULL.faults("canal", 4, 3, 2, 0, Integer.MIN_VALUE);
        int[][] beyond = {
            {-1, 28}, {-1, 1}, {0, 29}, {1, 28}, {27, 2}, {28, 1}, {29, 1}, {0, Integer.MAX_VALUE},
            {1, Integer.MAX_VALUE}, {Integer.MAX_VALUE, 1}, {Integer.MAX_VALUE, Integer.MAX_VALUE},
            {Integer.MIN_VALUE, 1}, {Integer.MIN_VALUE, Integer.MAX_VALUE},
        };
        for (int[] part : beyond) {
            Fresh.FULL.faults("canal", 3, 3, 2, part[0], part[1]);
        }
    }

    private static void canalRefusedForSeveral() {
        Due.part("promise 2, of several the first in the order told");
        Fresh.FULL.refused("canal", SkateBonds.UNKNOWN, 4, 3, -1, -1);
        Fresh.FULL.refused("canal", SkateBonds.UNKNOWN, -1, 2, 99, 1);
        Fresh.FULL.refused("canal", SkateBonds.OUTSIDE, 2, 3, -1, -1);
        Fresh.FULL.refused("canal", SkateBonds.OUTSIDE, 0, -1, 0, -1);
        Fresh.FULL.refused("canal", SkateBonds.OUTSIDE, 0, 3, 99, 1);
        Fresh.FULL.faults("canal", 2, 0, 1, 0, -1);
        Fresh.FULL.faults("canal", 2, 0, 2, 99, 1);
        Fresh.FULL.faults("canal", 2, 1, 2, -1, -1);
        Fresh.FULL.faults("canal", 1, 2, 2, 0, -1);
        Fresh.FULL.faults("canal", 1, 2, 0, 99, 1);
        Fresh.FULL.faults("canal", 4, 3, 2, -1, -1);
        Fresh.FULL.faults("canal", 4, 3, 2, 99, -1);
        Fresh.FULL.faults("canal", 3, 3, 2, 1, 28);
    }

    private static void canalOfNoCodes() {
        Due.part("FAULTS: INDEX also where i is not 0 .. how many there are, if none of them is taken");
        for (int i = 0; i <= 28; i++) {
            Fresh.FULL.refused("canal", -100, 3, 2, i, 0);
        }
        for (int i : new int[] {-1, 29, Integer.MIN_VALUE, Integer.MAX_VALUE}) {
            Fresh.FULL.faults("canal", 3, 3, 2, i, 0);
        }
        for (int length : new int[] {0, 1, 60}) {
            SkateBonds x = new SkateBonds();
            x.sheet(0, 1, length);
            Due.is("at the start of " + length, x.canal(0, 1, 0, 0), -100);
            Due.is("at the end of " + length, x.canal(0, 1, length, 0), -100);
            Due.is("fault()", x.fault(), 0);
            Due.is("beyond the end of " + length, x.canal(0, 1, length + 1, 0), -13);
            Due.is("fault()", x.fault(), 3);
            Due.is("ahead of the start of " + length, x.canal(0, 1, -1, 0), -13);
            Due.is("fault()", x.fault(), 3);
        }
    }

    private static void faultyTextChangesNothing() {
        Due.part("promise 2: a FIRST FAULT changes nothing");
        for (int n = 0; n < 28; n++) {
            if (n != 25) {
                Fresh.FULL.refused("canal", -100 - n, 3, 2, 0, n);
            }
        }
        Fresh.FULL.refused("canal", -100, 3, 2, 1, 27);
        String[] faulty = {"c129;11,s1,s1;", "c999", "c459;00000;00000;00000;00000,b9,b9,b9,b9,", "c159;00000,b9,b0"};
        int[] places = {13, 1, 40, 15};
        for (int k = 0; k < faulty.length; k++) {
            String text = faulty[k];
            Fresh written = new Fresh(() -> {
                SkateBonds x = Fresh.full();
                Canals.write(x, 3, 2, text);
                return x;
            });
            written.refused("canal", -100 - places[k], 3, 2, 0, text.length());
        }
    }

    private static void makesAllAnew() {
        Due.part("==== 1: a TEXT that is taken makes all anew");
        for (String text : new String[] {SHORTEST, LONGEST, Canals.TEXT, "c251;12345;67890,b1,k1"}) {
            SkateBonds x = Fresh.full();
            SkateBonds y = new SkateBonds();
            Canals.take(x, text);
            Canals.take(y, text);
            for (int what = 0; what <= 4; what++) {
                Due.is("many(" + what + ") of " + text, x.many(what), y.many(what));
            }
            Due.is("no READINGS", x.many(4), 0);
            Due.is("none to take back", x.back(1), SkateBonds.OUTSIDE);
            for (int c = 0; c <= 20; c++) {
                Due.is("strength(" + c + ") of " + text, x.strength(c), y.strength(c));
                Due.is("strengths(" + c + ") of " + text, x.strengths(c), c < x.many(1) ? 1023 : -1);
            }
            for (int a = 0; a <= 4; a++) {
                for (int what = 0; what <= 3; what++) {
                    Due.is("ofSkater(" + a + ", " + what + ") of " + text, x.ofSkater(a, what), y.ofSkater(a, what));
                }
                Due.is("weights(" + a + ") of " + text, x.weights(a), a < x.many(0) ? 1022 : -1);
            }
            Due.is("the first READING again", x.reading(0, 0, true), 0);
        }
    }

    private static void staysOverATaken() {
        Due.part("==== 1: SHEETS, TRACE stay");
        SkateBonds x = Fresh.full();
        int trace = x.trace();
        Due.holds("a TRACE", trace != 0);
        Due.is("canal", x.canal(3, 2, 0, 28), 3);
        Due.is("trace()", x.trace(), trace);
        int[] bytes = {9, 3, 2, 1, 2, 0, 2, 3, 0, 4, -1};
        for (int i = 0; i < bytes.length; i++) {
            Due.is("cell(0, " + i + ", 0)", x.cell(0, i, 0), bytes[i]);
        }
        Due.is("its end", x.cell(0, bytes.length, 0), SkateBonds.LOST);
        int[] shorts = {3, 2, 300};
        for (int i = 0; i < shorts.length; i++) {
            Due.is("cell(1, " + i + ", 1)", x.cell(1, i, 1), shorts[i]);
        }
        Due.is("sheet 2 has nothing", x.lose(2), 0);
        for (int i = 0; i < 28; i++) {
            Due.is("cell(3, " + i + ", 2)", x.cell(3, i, 2), Canals.TEXT.charAt(i));
        }
    }
}
