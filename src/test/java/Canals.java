/** Objects for the tests, with a canal and with rows in their sheets. */
final class Canals {
    /** HIGH 3, WIDE 4, FROST 2; LOADS 3, 6, 6. */
    static final String TEXT = "c342;9135;2864;7109,s3,k5,b2";
    /** One way that winds over all that BEARS. */
    static final String WINDING = "c450;99999;00009;99999;90000,s1,s1";

    private Canals() {
    }

    static SkateBonds on(String text) {
        SkateBonds x = new SkateBonds();
        Due.is("canal of " + text, take(x, text), (text.length() - text.indexOf(',')) / 3);
        return x;
    }

    /** Takes a text by sheet 3. */
    static int take(SkateBonds x, String text) {
        write(x, 3, 2, text);
        return x.canal(3, 2, 0, text.length());
    }

    static void write(SkateBonds x, int k, int lane, String text) {
        x.sheet(k, lane, text.length());
        for (int i = 0; i < text.length(); i++) {
            x.put(k, i, text.charAt(i));
        }
    }

    static void row(SkateBonds x, int k, int lane, int... numbers) {
        x.sheet(k, lane, numbers.length);
        for (int i = 0; i < numbers.length; i++) {
            x.put(k, i, numbers[i]);
        }
    }

    static int set(int... members) {
        int set = 0;
        for (int member : members) {
            set |= 1 << member;
        }
        return set;
    }
}
