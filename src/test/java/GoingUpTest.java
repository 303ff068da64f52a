/** Promises 15 to 20: who may go up. */
public final class GoingUpTest {
    private static final String PLAIN = "house 0 0 0 0 0 0 0 0;";

    public static void main(String[] args) {
        wants();
        words();
        asks();
        wordRefused();
        high();
        hears();
        then();
        planRow();
        planWaitsFirst();
        planOrderOfSteps();
        planEdges();
        planRefused();
        planTakesOthersAsTheyAre();
        Due.finish();
    }

    /** What a kind wants of a weight in a minute, by the document's table. */
    private static int wanted(int kind, int g, int t) {
        int[] creaky = {1, 1, 1, 2, 2, 2, 2, 3, 3, 3, 3, 4};
        int[] marble = {2, 2, 2, 4, 4, 4, 4, 5, 5, 5, 5, 5};
        int[] gentle = {0, 0, 0, 0, 0, 1, 1, 1, 1, 1, 1, 1};
        int[] all = {1, 2, creaky[g - 1], t % 2 == 1 ? 4 : 2, gentle[g - 1], marble[g - 1]};
        return all[kind];
    }

    /** What a word of a kind is worth, by the document's table. */
    private static int worth(int kind, int p, int t) {
        boolean late = t >= 18;
        int[] all = {1, 2, late ? 0 : 1, p == -1 ? 1 : 2, t % 2 == 1 ? 1 : 0, late ? 4 : 2};
        return all[kind];
    }

    // Promise 15: WANTS
    private static void wants() {
        for (int t = 0; t < 27; t++) {
            for (int g = 1; g <= 12; g++) {
                StairManners x = new StairManners();
                x.one(0, g);
                for (int kind = 0; kind < 6; kind++) {
                    x.step(kind, kind);
                }
                if (t > 0) {
                    x.waits(t);
                }
                for (int kind = 0; kind < 6; kind++) {
                    Due.is("15: kind " + kind + " of weight " + g + " in minute " + t, x.asks(0, kind, 0), wanted(kind, g, t % 24));
                }
            }
        }
    }

    // Promise 16
    private static void words() {
        for (int p = -1; p <= 8; p++) {
            StringBuilder text = new StringBuilder(PLAIN);
            for (int kind = 0; kind < 6; kind++) {
                text.append("one ").append(kind).append(" 1;");
                if (p >= 0) {
                    text.append("at ").append(kind).append(' ').append(p).append(';');
                }
            }
            StairManners x = Due.house(text.toString());
            for (int t = 0; t < 50; t++) {
                for (int kind = 0; kind < 6; kind++) {
                    Due.is("16: word of kind " + kind + " from " + p + " in minute " + t, x.word(kind), worth(kind, p, t % 24));
                }
                x.waits(1);
            }
        }
    }

    private static void asks() {
        StairManners x = Due.house("house 1 1 0 0 0 0 0 0;one 1 1;one 0 1;one 3 1;one 0 1;"
            + "knows 0 0;knows 1 0;knows 2 0;knows 1 1;");
        Due.is("15: the words of all others", x.asks(3, 0, 1), 2 + 1 + 1);
        Due.is("15: not one's own", x.asks(0, 0, 1), 1 + 1);
        Due.is("15: of those who know it", x.asks(3, 1, 1), 1);
        Due.is("15: enough", x.asks(3, 0, 2), 1);
        Due.is("15: just enough", x.asks(0, 0, 2), 1);
        Due.is("15: too little", x.asks(3, 1, 2), 0);
        Due.is("15: one who knows it already", x.asks(1, 1, 2), 1);
        Due.is("15: of whom no other knows it", x.asks(1, 1, 1), 0);
        Due.is("15: nothing is changed", x.count(1) + x.count(8), 0);
        int[][] wrong = {{-1, 0, 0}, {4, 0, 0}, {0, -1, 0}, {0, 8, 1}, {0, 0, -1}, {0, 0, 3}};
        for (int[] w : wrong) {
            Due.is("15: asks(" + w[0] + ", " + w[1] + ", " + w[2] + ")", x.asks(w[0], w[1], w[2]), -2);
        }
        Due.is("15: counted as BAD", x.status(0), wrong.length);
    }

    private static void wordRefused() {
        StairManners x = Due.house(PLAIN + "one 0 1;");
        int[] wrong = {-1, 1, 6, Integer.MIN_VALUE};
        for (int i : wrong) {
            Due.is("16: word(" + i + ")", x.word(i), -2);
            Due.is("17: high(" + i + ")", x.high(i), -10);
        }
        Due.is("16, 17: counted as BAD", x.status(0), 2 * wrong.length);
    }

    // Promise 17
    private static void high() {
        StairManners x = Due.house(PLAIN + "one 0 1;one 0 1;one 0 1;one 0 1;one 0 1;"
            + "knows 1 0;knows 1 1;knows 1 3;at 2 4;knows 2 6;knows 3 6;knows 3 7;at 3 5;at 4 8;");
        Due.is("17: knows none", x.high(0), -1);
        Due.is("17: up to a gap", x.high(1), 1);
        Due.is("17: stays where it is", x.high(2), 4);
        Due.is("17: to the top", x.high(3), 8);
        Due.is("17: at the top", x.high(4), 8);
        x = Due.house(PLAIN + "one 0 1;at 0 7;");
        Due.is("17: from step 7, not known", x.high(0), 8);
        Due.is("17: nothing is changed", x.of(0, 2), 7);
    }

    // Promise 18
    private static void hears() {
        StairManners x = Due.house("house 0 0 4 0 1 0 0 0;one 0 9;one 0 1;knows 0 0;"
            + "carpet 0;carpet 1;carpet 2;carpet 3;carpet 5;");
        int[] due = {0, 1, 2, 3, -1, -1, -1, -1};
        for (int s = 0; s < 8; s++) {
            Due.is("18: hears(0, " + s + ")", x.hears(0, s), due[s]);
            Due.is("18: hears(1, " + s + ")", x.hears(1, s), -1);
        }
        Due.is("18: nothing is changed", x.of(0, 3), 1);
        Due.is("18: a carpet tells upwards only", x.meets(1, 3), 0);
        x = Due.house(PLAIN + "one 0 1;knows 0 5;carpet 4;carpet 5;carpet 6;");
        Due.is("18: not below", x.hears(0, 4), -1);
        Due.is("18: known now", x.hears(0, 5), 0);
        Due.is("18: two on", x.hears(0, 7), 2);
        int[][] wrong = {{-1, 0}, {1, 0}, {0, -1}, {0, 8}};
        for (int[] w : wrong) {
            Due.is("18: hears(" + w[0] + ", " + w[1] + ")", x.hears(w[0], w[1]), -2);
        }
        Due.is("18: counted as BAD", x.status(0), wrong.length);
    }

    // Promise 19
    private static void then() {
        StairManners x = Due.house("house 0 0 4 0 1 0 0 0;one 0 9;knows 0 0;knows 0 4;"
            + "carpet 0;carpet 1;carpet 2;carpet 3;carpet 4;carpet 6;");
        int[] due = {17, 16 + 32 + 3, 16 + 32 + 7, 16 + 32 + 15, 16 + 32 + 15};
        for (int m = 0; m < due.length; m++) {
            Due.is("19: then(0, " + m + ")", x.then(0, m), due[m]);
        }
        Due.is("19: then(0, 60)", x.then(0, 60), 63);
        Due.is("19: nothing is changed", x.of(0, 3), 17);
        int[][] wrong = {{-1, 0}, {1, 0}, {0, -1}, {0, 61}};
        for (int[] w : wrong) {
            Due.is("19: then(" + w[0] + ", " + w[1] + ")", x.then(w[0], w[1]), -2);
        }
        Due.is("19: counted as BAD", x.status(0), wrong.length);
    }

    private static void plan(StairManners x, int i, int p, int... row) {
        Due.is("20: how many minutes to " + p, x.plan(i, p, -2), row.length);
        for (int k = 0; k < row.length; k++) {
            Due.is("20: what is done in the " + k + "-th to " + p, x.plan(i, p, k), row[k]);
        }
        Due.is("20: not so many", x.plan(i, p, row.length), -5);
        Due.is("20: not so many", x.plan(i, p, Integer.MAX_VALUE), -5);
    }

    // Promise 20
    private static void planRow() {
        StairManners x = Due.house("house 0 0 1 0 0 0 0 0;one 0 1;one 1 1;one 0 1;"
            + "knows 1 0;knows 1 1;knows 1 2;knows 1 3;knows 0 1;");
        plan(x, 0, 0, 0);
        plan(x, 0, 1, 0);
        plan(x, 0, 2, 0, 2);
        plan(x, 0, 3, 0, 2, 3);
        plan(x, 2, 3, 0, 1, 2, 3);
        Due.is("20: none, whatever k is", x.plan(0, 4, -2), -6);
        Due.is("20: none, whatever k is", x.plan(0, 4, 0), -6);
        Due.is("20: none, whatever k is", x.plan(0, 8, Integer.MAX_VALUE), -6);
        Due.is("20: no refusal", x.status(0) + x.status(1), 0);
        Due.is("20: nothing is changed", x.of(0, 3), 2);
        Due.is("20: no minute", x.count(1), 0);
    }

    private static void planWaitsFirst() {
        // A burglar's word is worth 1 in odd minutes only; a gentle step wants 0 of one of 5 at any time.
        StairManners x = Due.house("house 0 4 4 0 0 0 0 0;one 0 1;one 4 1;knows 1 0;knows 1 1;knows 1 2;minutes 2;");
        plan(x, 0, 0, -1, 0);
        plan(x, 0, 1, 1, 0);
        plan(x, 0, 2, 1, 0, 2);
        x.waits(1);
        plan(x, 0, 0, 0);
        plan(x, 0, 1, 0, 1);
        plan(x, 0, 2, 0, 1, 2);
        // Two steps that burglars alone speak for: each in an odd minute.
        x = Due.house("house 0 4 0 0 0 0 0 0;one 0 5;one 4 1;knows 1 0;knows 1 1;knows 1 2;");
        plan(x, 0, 2, -1, 0, 1, 2);
        x.waits(1);
        plan(x, 0, 2, 0, 1, 2);
    }

    private static void planOrderOfSteps() {
        // A child's word is worth nothing from 18 on: step 0 must be met at 17, step 1 (gentle) can be later.
        StairManners x = Due.house("house 0 4 0 0 0 0 0 0;one 0 1;one 2 1;knows 1 0;minutes 17;");
        plan(x, 0, 1, 0, 1);
        x.waits(1);
        Due.is("20: a child speaks again at 24", x.plan(0, 0, -2), 7);
        Due.is("20: till then one waits", x.plan(0, 0, 5), -1);
        Due.is("20: and is introduced at last", x.plan(0, 0, 6), 0);
        plan(x, 0, 1, -1, -1, -1, -1, -1, 1, 0);
        // Two that must be met ahead of 18, the higher one first if the lower one can wait no longer.
        x = Due.house("house 0 0 0 0 0 0 0 0;one 0 1;one 2 1;one 5 1;knows 1 1;knows 2 0;minutes 16;");
        plan(x, 0, 1, 0, 1);
        x = Due.house("house 5 0 0 0 0 0 0 0;one 0 12;one 2 1;one 5 1;one 1 1;knows 1 1;knows 2 0;knows 3 0;minutes 17;");
        plan(x, 0, 1, 1, 0);
    }

    private static void planEdges() {
        StairManners x = Due.house("house 4 4 4 4 4 4 4 4;one 0 1;one 0 1;at 1 8;one 0 1;at 2 7;one 0 1;at 3 5;");
        plan(x, 0, 8, 0, 1, 2, 3, 4, 5, 6, 7);
        plan(x, 0, 7, 0, 1, 2, 3, 4, 5, 6, 7);
        plan(x, 0, 0, 0);
        for (int p = 0; p <= 8; p++) {
            plan(x, 1, p);
            if (p <= 7) {
                plan(x, 2, p);
            }
        }
        plan(x, 2, 8);
        plan(x, 3, 5);
        plan(x, 3, 6, 6);
        plan(x, 3, 8, 6, 7);
        // Odd minutes only, eight steps: 16 minutes.
        x = Due.house("house 0 0 0 0 0 0 0 0;one 0 1;one 4 1;"
            + "knows 1 0;knows 1 1;knows 1 2;knows 1 3;knows 1 4;knows 1 5;knows 1 6;knows 1 7;");
        plan(x, 0, 8, -1, 0, -1, 1, -1, 2, -1, 3, -1, 4, -1, 5, -1, 6, -1, 7);
        // A widow and a burglar are worth 5 together in odd minutes from 18 on: 19, 21, 23; then the day after.
        String marble = "house 5 5 5 5 5 5 5 5;one 0 12;one 4 1;one 5 1;";
        x = Due.house(marble + "knows 1 0;knows 1 1;knows 1 2;knows 1 3;knows 2 0;knows 2 1;knows 2 2;knows 2 3;minutes 24;");
        Due.is("20: beyond 40 minutes there is none", x.plan(0, 3, -2), -6);
        Due.is("20: three in the first night", x.plan(0, 2, -2), 24);
        x.waits(4);
        Due.is("20: the 40th minute counts", x.plan(0, 3, -2), 40);
        Due.is("20: it is the last", x.plan(0, 3, 39), 3);
        Due.is("20: waits to the end of the second day", x.plan(0, 3, 16), -1);
        x.undo();
        x.waits(3);
        Due.is("20: a 41st does not", x.plan(0, 3, -2), -6);
    }

    private static void planRefused() {
        StairManners x = Due.house("house 4 4 4 4 4 4 4 4;one 0 1;");
        int[][] wrong = {{-1, 0, 0}, {1, 0, -2}, {0, -1, 0}, {0, 9, 0}, {0, 0, -1}, {0, 0, -3}, {0, 0, Integer.MIN_VALUE}};
        for (int[] w : wrong) {
            Due.is("20: plan(" + w[0] + ", " + w[1] + ", " + w[2] + ")", x.plan(w[0], w[1], w[2]), -10);
        }
        Due.is("20: counted as BAD", x.status(0), wrong.length);
    }

    private static void planTakesOthersAsTheyAre() {
        // A carpet would tell the host's name on, but carpets are not there in a plan.
        StairManners x = Due.house("house 0 0 0 0 0 0 0 0;one 0 1;one 0 1;knows 1 0;carpet 0;");
        Due.is("20: no carpets", x.plan(0, 1, -2), -6);
        plan(x, 0, 0, 0);
        // An heir in the hall is worth 1, on a step 2.
        x = Due.house("house 1 0 0 0 0 0 0 0;one 0 1;one 3 1;knows 1 0;");
        Due.is("20: an heir in the hall", x.plan(0, 0, -2), -6);
        x.goes(1, 1);
        plan(x, 0, 0, 0);
    }
}
