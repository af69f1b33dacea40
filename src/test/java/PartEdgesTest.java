/** The edges of telling, signing, kinds and TRACE (==== 5 and promises 26 to 29); and the 512 calls of an object. */
public final class PartEdgesTest {
    private static final int MIN = Integer.MIN_VALUE;
    private static final int MAX = Integer.MAX_VALUE;

    private PartEdgesTest() {
    }

    public static void main(String[] args) {
        tellOfEachWeight();
        tellLeavesTrace();
        tellRefusals();
        signedNumbers();
        signedLeavesTrace();
        signedRefusals();
        asOfEachKind();
        asRefusals();
        traceAtFirst();
        traceWraps();
        traceStays();
        traceOfKindsAlone();
        asManyCallsAsThereMayBe();
        Due.end();
    }

    private static void tellOfEachWeight() {
        Due.part("==== 5: TELLING: SKATER: WEIGHT. CLERK: what SKATER's gives, and 100. BANKER: CLERK's and SKATER's");
        for (int weight = 1; weight <= 9; weight++) {
            SkateBonds x = Canals.on("c120;99,s" + weight + ",k" + weight + ",b" + weight);
            Due.is("a SKATER of " + weight, x.tell(0), weight);
            Due.is("a CLERK of " + weight, x.tell(1), 100 + weight);
            Due.is("a BANKER of " + weight, x.tell(2), 100 + 2 * weight);
        }
        SkateBonds x = Canals.on("c120;99,b1,b9,k1,k9");
        int[] want = {102, 118, 101, 109};
        for (int a = 0; a < 4; a++) {
            Due.is("tell(" + a + ")", x.tell(a), want[a]);
        }
    }

    private static void tellLeavesTrace() {
        Due.part("==== 5: bodies leave their number in TRACE as they begin");
        // 1; 2 and 1; 3, 2, 1 and 1.
        int[] want = {1, 31 * 2 + 1, 31 * (31 * (31 * 3 + 2) + 1) + 1};
        int[] told = {1, 63, 91327};
        for (int kind = 0; kind <= 2; kind++) {
            SkateBonds x = Canals.on("c120;99," + "skb".charAt(kind) + "5,s1");
            x.tell(0);
            Due.is("kind " + kind, x.trace(), want[kind]);
            Due.is("kind " + kind, x.trace(), told[kind]);
        }
        SkateBonds x = Canals.on("c120;99,s1,k1");
        x.tell(1);
        x.tell(0);
        Due.is("a CLERK, a SKATER", x.trace(), (31 * 2 + 1) * 31 + 1);
    }

    private static void tellRefusals() {
        Due.part("promise 26, UNKNOWN");
        Fresh.FULL.unknown("tell", SkateBonds.UNKNOWN, 0, 3, 0);
        Fresh.NEW.unknown("tell", SkateBonds.UNKNOWN, 0, 0, 0);
    }

    private static void signedNumbers() {
        Due.part("==== 5: SIGNED: their number (from 0 on); BANKERS: 60");
        for (String letters : new String[] {"ssss", "kkkk", "bbbb", "skbs", "bksb", "sb", "bs", "kb"}) {
            StringBuilder text = new StringBuilder("c120;99");
            for (int a = 0; a < letters.length(); a++) {
                text.append(',').append(letters.charAt(a)).append(a + 6);
            }
            SkateBonds x = Canals.on(text.toString());
            for (int a = 0; a < letters.length(); a++) {
                Due.is("signed(" + a + ") of " + letters, x.signed(a), letters.charAt(a) == 'b' ? 60 : a);
            }
            Due.is("one more", x.signed(letters.length()), SkateBonds.UNKNOWN);
        }
    }

    private static void signedLeavesTrace() {
        Due.part("==== 5: by a lent body (4); BANKERS have their own (5)");
        int[] want = {4, 4, 5};
        for (int kind = 0; kind <= 2; kind++) {
            SkateBonds x = Canals.on("c120;99," + "skb".charAt(kind) + "5,s1");
            x.signed(0);
            Due.is("kind " + kind, x.trace(), want[kind]);
            x.signed(0);
            Due.is("kind " + kind + ", twice", x.trace(), 32 * want[kind]);
        }
    }

    private static void signedRefusals() {
        Due.part("promise 27, UNKNOWN");
        Fresh.FULL.unknown("signed", SkateBonds.UNKNOWN, 0, 3, 0);
        Fresh.NEW.unknown("signed", SkateBonds.UNKNOWN, 0, 0, 0);
    }

    private static void asOfEachKind() {
        Due.part("promise 28: a SKATER, taken as one of a kind: 1; CAST: they are none");
        for (int a = 0; a <= 2; a++) {
            for (int kind = 0; kind <= 2; kind++) {
                if (kind <= a) {
                    Fresh.FULL.refused("as", 1, a, kind);
                } else {
                    Fresh.FULL.faults("as", 2, a, kind);
                }
            }
        }
        SkateBonds x = Canals.on("c120;99,b1,k1,s1,b1");
        int[] kinds = {2, 1, 0, 2};
        for (int a = 0; a < 4; a++) {
            for (int kind = 0; kind <= 2; kind++) {
                Due.is(Calls.told("as", a, kind), x.as(a, kind), kind <= kinds[a] ? 1 : -12);
            }
        }
    }

    private static void asRefusals() {
        Due.part("promise 28, UNKNOWN; OUTSIDE");
        for (int kind = 0; kind <= 2; kind++) {
            Fresh.FULL.unknownOfFaulting("as", SkateBonds.UNKNOWN, 0, 3, 0, kind);
            Fresh.FULL.unknownOfFaulting("as", SkateBonds.OUTSIDE, 1, 3, kind, 0);
            Fresh.NEW.unknownOfFaulting("as", SkateBonds.UNKNOWN, 0, 0, 0, kind);
        }
        Fresh.FULL.refused("as", SkateBonds.UNKNOWN, 3, 3);
        Fresh.FULL.refused("as", SkateBonds.UNKNOWN, -1, -1);
        Fresh.NEW.refused("as", SkateBonds.UNKNOWN, 0, 3);
    }

    private static void traceAtFirst() {
        Due.part("promise 29: TRACE, 0 at first");
        Due.is("of a new object", new SkateBonds().trace(), 0);
        Due.is("of a new canal", Canals.on(Canals.TEXT).trace(), 0);
        Fresh.FULL.changesNothing("trace", 91327);
        Fresh.NEW.changesNothing("trace", 0);
    }

    private static void traceWraps() {
        Due.part("==== 5: TRACE (an int that wraps)");
        // 4 * (1 + 31 + .. ) of 6, 7, 8 signed; the seventh wraps.
        int[] of4 = {0, 4, 128, 3972, 123136, 3817220, 118333824, -626618748};
        // The last one that does not wrap is the sixth, of 5 as well.
        int[] of5 = {0, 5, 160, 4965, 153920, 4771525, 147917280, 290468389};
        SkateBonds x = Canals.on("c120;99,s1,b1");
        SkateBonds y = Canals.on("c120;99,s1,b1");
        for (int k = 0; k < of4.length; k++) {
            Due.is(k + " lent bodies", x.trace(), of4[k]);
            Due.is(k + " own bodies", y.trace(), of5[k]);
            x.signed(0);
            y.signed(1);
        }
        long whole = 0;
        SkateBonds z = Canals.on("c120;99,b1,s1");
        for (int k = 0; k < 200; k++) {
            Due.is(k + " bankers", z.trace(), (int) whole);
            z.tell(0);
            for (int body : new int[] {3, 2, 1, 1}) {
                whole = (whole * 31 + body) & 0xffffffffL;
            }
        }
    }

    private static void traceStays() {
        Due.part("promise 29: by no other call");
        SkateBonds x = Fresh.full();
        Due.is("trace()", x.trace(), 91327);
        x.as(2, 1);
        x.as(0, 2);
        x.tell(3);
        x.signed(-1);
        x.ofSkater(2, 1);
        x.weights(2);
        x.kinds(2);
        x.canal(3, 2, 0, 28);
        x.sheet(0, 0, 3);
        x.lose(0);
        x.write(0, 1, 3, 1, 1, 0, 1);
        Due.is("trace()", x.trace(), 91327);
    }

    private static void traceOfKindsAlone() {
        Due.part("==== 5: WEIGHT is not left, the number of a body is");
        for (int weight = 1; weight <= 9; weight++) {
            SkateBonds x = Canals.on("c120;99,b" + weight + ",s" + weight);
            x.tell(0);
            x.tell(1);
            Due.is("WEIGHT " + weight, x.trace(), 91327 * 31 + 1);
        }
    }

    private static void asManyCallsAsThereMayBe() {
        Due.part("an object is used for at most 512 calls after it has been made");
        SkateBonds x = new SkateBonds();
        int calls = 0;
        String text = "c120;99,s1,s1";
        x.sheet(0, 2, text.length());
        calls++;
        for (int i = 0; i < text.length(); i++) {
            x.put(0, i, text.charAt(i));
            calls++;
        }
        Due.is("canal", x.canal(0, 2, 0, text.length()), 2);
        calls++;
        int trace = 0;
        while (calls < 511) {
            Due.is("signed(1), call " + calls, x.signed(1), 1);
            trace = trace * 31 + 4;
            calls++;
        }
        Due.is("trace(), the 512th call", x.trace(), trace);
        SkateBonds y = new SkateBonds();
        for (int k = 0; k < 511; k++) {
            Due.is("sheet, call " + k, y.sheet(k % 4, k % 3, k % 61), 1);
        }
        Due.is("the 512th call", y.lose(3), 1);
    }
}
