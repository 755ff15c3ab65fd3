/** Counts the answers that are not the ones that are due, and ends the test accordingly. */
final class Check {
    static final int UNKNOWN = -1, OUTSIDE = -2, STATE = -3, FULL = -4, NONE = -9;

    private static int wrong;
    private static int made;

    private Check() {
    }

    static void due(int promise, String call, long got, long want) {
        made++;
        if (got != want) {
            wrong++;
            System.out.println("promise " + promise + ": " + call + " answered " + got + ", due is " + want);
        }
    }

    static void finish() {
        System.out.println(wrong + " of " + made + " answers are not as due");
        if (wrong != 0 || made == 0) {
            System.exit(1);
        }
    }

    static void write(HiddenExits x, String text) {
        x.wipe();
        for (char c : text.toCharArray()) {
            x.write(c);
        }
    }

    /** Reads another domain. */
    static void read(HiddenExits x, String text) {
        write(x, text);
        if (x.domain() < 0) {
            due(5, "domain() of " + text, x.domain(), 0);
        }
    }

    /** A new object with a domain. */
    static HiddenExits domain(String text) {
        HiddenExits x = new HiddenExits();
        read(x, text);
        return x;
    }
}
