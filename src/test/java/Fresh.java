import java.util.List;
import java.util.function.Supplier;

/** Asks a call of fresh objects: what it answers, what fault() says then, and that it changes nothing else. */
final class Fresh {
    /** No CANAL, no SHEET that has something. */
    static final Fresh NEW = new Fresh(SkateBonds::new);
    /** See full(). */
    static final Fresh FULL = new Fresh(Fresh::full);

    private static final int MIN = Integer.MIN_VALUE;
    private static final int MAX = Integer.MAX_VALUE;
    /** What fault() says ahead of the call. */
    private static final int[] BEFORE = {0, 1, 4};
    private static final int STAYS = -1;

    private final Supplier<SkateBonds> made;
    private final List<String> look;

    Fresh(Supplier<SkateBonds> made) {
        this.made = made;
        this.look = Look.at(made.get());
    }

    /**
     * The canal of Canals.TEXT, its text as ints in sheet 3, bytes that are strokes (but the first and the last two) in
     * sheet 0, shorts in sheet 1, nothing in sheet 2; and a TRACE, a FROST, a STRENGTH and READINGS of its own.
     */
    static SkateBonds full() {
        SkateBonds x = new SkateBonds();
        Canals.take(x, Canals.TEXT);
        Canals.row(x, 0, 0, 9, 3, 2, 1, 2, 0, 2, 3, 0, 4, -1);
        Canals.row(x, 1, 1, 3, 2, 300);
        x.tell(2);
        x.frost(5);
        x.freeze(1, 6);
        x.reading(0, 2, true);
        x.reading(1, 7, false);
        x.reading(2, 10, false);
        return x;
    }

    /** A call that names no FAULTS. */
    void changesNothing(String name, long want, Object... with) {
        ask(name, want, STAYS, with);
    }

    /** A call that names FAULTS and comes to none: it is refused, or changes nothing by itself. */
    void refused(String name, long want, Object... with) {
        ask(name, want, 0, with);
    }

    /** A call that comes to a FAULT. */
    void faults(String name, int fault, Object... with) {
        ask(name, name.equals("cell") ? SkateBonds.LOST : -10 - fault, fault, with);
    }

    /** Asks a call that names no FAULTS with all the numbers that one of what it is asked with must not be. */
    void unknown(String name, long want, int place, int count, Object... with) {
        for (int wrong : new int[] {-1, count, MIN, MAX, count + 1, -2}) {
            changesNothing(name, want, changed(with, place, wrong));
        }
    }

    /** The same of a call that names FAULTS. */
    void unknownOfFaulting(String name, long want, int place, int count, Object... with) {
        for (int wrong : new int[] {-1, count, MIN, MAX, count + 1, -2}) {
            refused(name, want, changed(with, place, wrong));
        }
    }

    boolean looksLike(Fresh other) {
        return look.equals(other.look);
    }

    private static Object[] changed(Object[] with, int place, int wrong) {
        Object[] changed = with.clone();
        changed[place] = wrong;
        return changed;
    }

    private void ask(String name, long want, int fault, Object... with) {
        for (int before : BEFORE) {
            SkateBonds x = made.get();
            makeFault(x, before);
            String told = Calls.told(name, with);
            Due.is(told, Calls.ask(x, name, with), want);
            Due.is("fault() behind " + told + ", " + before + " before", x.fault(), fault == STAYS ? before : fault);
            staysAsItWas(told, x);
        }
    }

    private static void makeFault(SkateBonds x, int fault) {
        if (fault == 0) {
            x.sheet(-1, 0, 0);
        } else if (fault == 1) {
            x.put(2, 0, 0);
        } else {
            x.sheet(0, 0, -1);
        }
        Due.is("fault() ahead of the call", x.fault(), fault);
    }

    private void staysAsItWas(String told, SkateBonds x) {
        List<String> now = Look.at(x);
        for (int k = 0; k < look.size() && k < now.size(); k++) {
            if (!look.get(k).equals(now.get(k))) {
                Due.holds("behind " + told + ": " + now.get(k) + ", before: " + look.get(k), false);
                return;
            }
        }
        Due.is("what is seen behind " + told, now.size(), look.size());
    }
}
