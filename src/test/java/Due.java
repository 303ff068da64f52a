/** What is due: counts answers that are not, and ends the test's program. */
final class Due {
    private static int asked = 0;
    private static int wrong = 0;

    private Due() {
    }

    static void is(String call, long got, long want) {
        asked++;
        if (got != want) {
            wrong++;
            System.out.println(call + " answered " + got + ", due is " + want);
        }
    }

    static void holds(String what, boolean so) {
        is(what + " (1: so)", so ? 1 : 0, 1);
    }

    static void finish() {
        System.out.println(asked + " asked, " + wrong + " wrong");
        if (wrong != 0 || asked == 0) {
            System.exit(1);
        }
    }

    /** Types a text behind an empty one; answers what read() does. */
    static int read(StairManners x, String text) {
        x.clear();
        for (int k = 0; k < text.length(); k++) {
            is("type of '" + text.charAt(k) + "' in " + text, x.type(text.charAt(k)), k + 1);
        }
        return x.read();
    }

    /** A new object whose house is told by a text that must be well told. */
    static StairManners house(String text) {
        StairManners x = new StairManners();
        holds("read of " + text, read(x, text) > 0);
        return x;
    }
}
