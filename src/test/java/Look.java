import java.util.ArrayList;
import java.util.List;

/**
 * All that can be seen of an object but fault().
 *
 * <p>READINGS are seen one by one, the last one first, by taking them back: a look is the last thing that is done with an
 * object.
 */
final class Look {
    /** So many numbers or READINGS there never are; of a class that is wrong a look must end, too. */
    private static final int BEYOND = 100;

    /** SkateBonds or PlainBonds. */
    private final Object x;
    private final List<String> seen = new ArrayList<>();

    private Look(Object x) {
        this.x = x;
    }

    static List<String> at(Object x) {
        Look look = new Look(x);
        look.see("trace");
        look.canal();
        look.sheets();
        look.readings();
        return look.seen;
    }

    private void see(String name, Object... with) {
        seen.add(Calls.told(name, with) + " = " + Calls.ask(x, name, with));
    }

    private void canal() {
        for (int what = 0; what <= 4; what++) {
            see("many", what);
        }
        for (int a = 0; a < 4; a++) {
            for (int what = 0; what <= 3; what++) {
                see("ofSkater", a, what);
            }
        }
        for (int c = 0; c < 20; c++) {
            see("strength", c);
        }
    }

    private void sheets() {
        for (int k = 0; k < 4; k++) {
            for (int lane = 0; lane <= 2; lane++) {
                Calls.ask(x, "cell", k, 0, lane);
                long fault = Calls.ask(x, "fault");
                seen.add("sheet " + k + " as lane " + lane + ": fault " + fault);
                if (fault == 0) {
                    numbers(k, lane);
                }
            }
        }
    }

    private void numbers(int k, int lane) {
        long number = Calls.ask(x, "cell", k, 0, lane);
        for (int i = 0; i < BEYOND && number != SkateBonds.LOST; i++) {
            seen.add("cell " + i + " of sheet " + k + " = " + number);
            number = Calls.ask(x, "cell", k, i + 1, lane);
        }
    }

    private void readings() {
        follows();
        for (long left = Math.min(BEYOND, Calls.ask(x, "many", 4)); left > 0; left--) {
            see("back", 1);
            follows();
        }
    }

    private void follows() {
        for (int a = 0; a < 4; a++) {
            see("weights", a);
            see("kinds", a);
        }
        for (int c = 0; c < 20; c++) {
            see("strengths", c);
        }
    }
}
