import java.util.Arrays;
import java.util.function.Consumer;

/** Promises 15 to 20: who may go up, at the boundaries that the document names; nothing is changed by these. */
public final class EdgesOfGoingUpTest {
    private static final String PLAIN = "house 0 0 0 0 0 0 0 0;";
    private static final String CARPETS = "carpet 0;carpet 1;carpet 2;carpet 3;carpet 4;carpet 5;carpet 6;";
    private static final String ALL_KNOWN = "knows 1 0;knows 1 1;knows 1 2;knows 1 3;knows 1 4;knows 1 5;knows 1 6;knows 1 7;";

    public static void main(String[] args) {
        asksOneWhoKnows();
        asksNobody();
        highFromTheHall();
        highToTheTop();
        hearsAtOnceAndLast();
        hearsNever();
        thenNoneAndSixty();
        minutesBeyondTheLast();
        planOfNothing();
        planUpToAPlace();
        planToTheTop();
        planOfNone();
        planOfOneMinute();
        planOfFortyMinutes();
        planWaitsFirst();
        planStepsRising();
        planOfTheOtherDay();
        planAsAllStandNow();
        planNotSoMany();
        planAskedAgain();
        Due.finish();
    }

    // 15: "one who KNOWS it already: 1"
    private static void asksOneWhoKnows() {
        String text = "house 5 0 0 0 0 0 0 0;one 0 12;one 0 12;knows 0 0;";
        Edge.asked("15: it wants 5", Edge.told(text), 5, "asks", 0, 0, 0);
        Edge.asked("15: nobody else KNOWS it", Edge.told(text), 0, "asks", 0, 0, 1);
        Edge.asked("15: one who KNOWS it could in any case", Edge.told(text), 1, "asks", 0, 0, 2);
        Edge.asked("15: one who does not could not", Edge.told(text), 0, "asks", 1, 0, 2);
        Edge.asked("15: for whom one word is there", Edge.told(text), 1, "asks", 1, 0, 1);
    }

    private static void asksNobody() {
        Edge.asked("15: a STEP that wants 0 needs nobody", Edge.told("house 4 0 0 0 0 0 0 4;one 0 5;"), 1, "asks", 0, 7, 2);
        Edge.asked("15: one that wants 1 does", Edge.told("house 4 0 0 0 0 0 0 4;one 0 6;"), 0, "asks", 0, 7, 2);
        Edge.bad("15: BAD", Edge.told(PLAIN + "one 0 5;"), -2, "asks", 0, 0, 3);
    }

    private static void high(String told, int due) {
        Edge.asked("17: " + told, Edge.told(PLAIN + "one 0 1;" + told), due, "high", 0);
    }

    // "HIGH: the highest place to which one can go up from where one is by STEPS that are KNOWN (NONE, 0 .. 8)."
    private static void highFromTheHall() {
        high("", -1);
        high("knows 0 1;knows 0 7;", -1);
        high("knows 0 0;", 0);
        high("knows 0 0;knows 0 2;", 0);
        high("knows 0 0;knows 0 1;knows 0 2;knows 0 3;knows 0 4;knows 0 5;knows 0 6;", 6);
        high("knows 0 0;knows 0 1;knows 0 2;knows 0 3;knows 0 4;knows 0 5;knows 0 6;knows 0 7;", 8);
        Edge.bad("17: BAD is -10, as NONE is an answer", Edge.told(PLAIN + "one 0 1;"), -10, "high", 1);
        Edge.bad("17: BAD is -10", Edge.told(PLAIN + "one 0 1;"), -10, "high", -1);
    }

    private static void highToTheTop() {
        high("at 0 8;", 8);
        high("at 0 7;", 8);
        high("at 0 6;", 6);
        high("at 0 6;knows 0 7;", 8);
        high("at 0 6;knows 0 6;", 6);
        high("at 0 5;knows 0 6;", 6);
        high("at 0 0;", 0);
        high("at 0 0;knows 0 1;", 1);
        high("at 0 3;knows 0 0;knows 0 1;knows 0 2;knows 0 3;", 3);
    }

    // "HEARD: in how many MINUTES (0 .. 60) .. one KNOWS a STEP by CARPETS first"
    private static void hearsAtOnceAndLast() {
        String text = PLAIN + "one 0 1;knows 0 0;" + CARPETS;
        for (int s = 0; s < 8; s++) {
            Edge.asked("18: in so many MINUTES", Edge.told(text), s, "hears", 0, s);
        }
        Edge.asked("18: of two ways the first", Edge.told(text + "knows 0 5;"), 1, "hears", 0, 6);
        Edge.asked("18: known now", Edge.told(text + "knows 0 7;"), 0, "hears", 0, 7);
        Edge.asked("18: known now, without a CARPET", Edge.told(PLAIN + "one 0 1;knows 0 0;"), 0, "hears", 0, 0);
    }

    // 18: "NONE."
    private static void hearsNever() {
        Edge.asked("18: no CARPET", Edge.told(PLAIN + "one 0 1;knows 0 0;"), -1, "hears", 0, 1);
        Edge.asked("18: not down", Edge.told(PLAIN + "one 0 1;knows 0 7;" + CARPETS), -1, "hears", 0, 6);
        Edge.asked("18: knows nothing", Edge.told(PLAIN + "one 0 1;" + CARPETS), -1, "hears", 0, 7);
        String gap = PLAIN + "one 0 1;knows 0 0;carpet 0;carpet 1;carpet 3;carpet 4;";
        Edge.asked("18: ahead of a gap", Edge.told(gap), 2, "hears", 0, 2);
        Edge.asked("18: behind it", Edge.told(gap), -1, "hears", 0, 3);
        String proud = "house 0 0 4 1 0 0 0 0;one 0 1;knows 0 0;" + CARPETS;
        Edge.asked("18: a GENTLE one", Edge.told(proud), 2, "hears", 0, 2);
        Edge.asked("18: a PROUD one", Edge.told(proud), -1, "hears", 0, 3);
        Edge.asked("18: behind it", Edge.told(proud), -1, "hears", 0, 4);
    }

    // "THEN: what one KNOWS (bits) behind m (0 .. 60) MINUTES so."
    private static void thenNoneAndSixty() {
        String text = PLAIN + "one 0 1;one 0 1;knows 0 0;" + CARPETS;
        int[][] due = {{0, 1}, {1, 3}, {6, 127}, {7, 255}, {8, 255}, {60, 255}};
        for (int[] d : due) {
            Edge.asked("19: then", Edge.told(text), d[1], "then", 0, d[0]);
            Edge.asked("19: the other's", Edge.told(text), 0, "then", 1, d[0]);
        }
        Edge.asked("19: no CARPET", Edge.told(PLAIN + "one 0 1;knows 0 0;"), 1, "then", 0, 60);
        Edge.bad("19: BAD", Edge.told(text), -2, "then", 0, 61);
        Edge.bad("19: BAD", Edge.told(text), -2, "then", 0, -1);
    }

    // "(Nothing is changed by these; MINUTES go beyond 9999 in them.)"
    private static void minutesBeyondTheLast() {
        Consumer<StairManners> last = x -> {
            Edge.read(x, "house 5 0 0 4 0 0 0 0;one 0 12;one 4 1;one 5 1;one 0 1;knows 1 0;knows 2 0;");
            Edge.pass(x, 9998);
            x.meets(3, 3);
            x.carpet(3, 1);
            x.carpet(4, 1);
        };
        Edge.asked("the last MINUTE", last, 9999, "count", 1);
        Edge.asked("18: one MINUTE on", last, 1, "hears", 3, 4);
        Edge.asked("18: two MINUTES on", last, 2, "hears", 3, 5);
        Edge.asked("19: sixty MINUTES on", last, 8 + 16 + 32, "then", 3, 60);
        // 9999 is minute 15 of a day: burglar and widow are worth 5 together in minute 19, four on.
        Edge.asked("20: in MINUTE 10003", last, 5, "plan", 0, 0, -2);
        Edge.asked("20: in MINUTE 10003", last, 0, "plan", 0, 0, 4);
        Edge.asked("20: till then", last, -1, "plan", 0, 0, 3);
        // Behind 9999 by seed 31 one 5 (nobody) would be introduced, so that a minute goes by alone.
        Edge.asked("32: one MINUTE on", last, 4, "evenings", 31, 1);
        Edge.asked("32: none", last, 3, "evenings", 31, 0);
    }

    private static void plan(Consumer<StairManners> ahead, int i, int p, int... row) {
        Edge.asked("20: how many to " + p, ahead, row.length, "plan", i, p, -2);
        for (int k = 0; k < row.length; k++) {
            Edge.asked("20: to " + p, ahead, row[k], "plan", i, p, k);
        }
        Edge.asked("20: not so many to " + p, ahead, -5, "plan", i, p, row.length);
        Edge.asked("20: not so many to " + p, ahead, -5, "plan", i, p, Integer.MAX_VALUE);
    }

    private static void none(Consumer<StairManners> ahead, int i, int p) {
        for (int k : new int[] {-2, 0, 1, 39, 40, 41, Integer.MAX_VALUE}) {
            Edge.asked("20: none, whatever k is", ahead, -6, "plan", i, p, k);
        }
        for (int k : new int[] {-1, -3, Integer.MIN_VALUE}) {
            Edge.bad("20: BAD, though there is none", ahead, -10, "plan", i, p, k);
        }
    }

    // "the fewest MINUTES (0 .. 40)": none are needed where all is known, or nothing lies between.
    private static void planOfNothing() {
        for (int place = 0; place <= 8; place++) {
            Consumer<StairManners> there = Edge.told(PLAIN + "one 0 1;at 0 " + place + ";");
            for (int p = 0; p <= place; p++) {
                plan(there, 0, p);
            }
        }
        Consumer<StairManners> known = Edge.told(PLAIN + "one 0 1;one 0 1;" + ALL_KNOWN);
        for (int p = 0; p <= 8; p++) {
            plan(known, 1, p);
        }
    }

    // "behind which one KNOWS all STEPS from where one is (not that) up to p"
    private static void planUpToAPlace() {
        String text = PLAIN + "one 0 1;one 0 1;" + ALL_KNOWN;
        plan(Edge.told(text), 0, 0, 0);
        plan(Edge.told(text), 0, 1, 0, 1);
        plan(Edge.told(text + "at 0 0;"), 0, 1, 1);
        plan(Edge.told(text + "at 0 3;"), 0, 3);
        plan(Edge.told(text + "at 0 3;"), 0, 4, 4);
        plan(Edge.told(text + "at 0 3;"), 0, 6, 4, 5, 6);
        plan(Edge.told(text + "knows 0 1;"), 0, 2, 0, 2);
        plan(Edge.told(text + "knows 0 7;knows 0 4;at 0 3;"), 0, 7, 5, 6);
        none(Edge.told(PLAIN + "one 0 1;one 0 1;knows 1 0;knows 1 2;"), 0, 2);
        plan(Edge.told(PLAIN + "one 0 1;one 0 1;knows 1 0;knows 1 2;at 0 1;"), 0, 2, 2);
    }

    // "(STEP 7 for 8)"
    private static void planToTheTop() {
        String text = PLAIN + "one 0 1;one 0 1;" + ALL_KNOWN;
        plan(Edge.told(text), 0, 7, 0, 1, 2, 3, 4, 5, 6, 7);
        plan(Edge.told(text), 0, 8, 0, 1, 2, 3, 4, 5, 6, 7);
        plan(Edge.told(text + "at 0 6;"), 0, 7, 7);
        plan(Edge.told(text + "at 0 6;"), 0, 8, 7);
        plan(Edge.told(text + "at 0 7;"), 0, 8);
        plan(Edge.told(text + "at 0 6;knows 0 7;"), 0, 8);
        none(Edge.told(PLAIN + "one 0 1;at 0 6;"), 0, 8);
        none(Edge.told(PLAIN + "one 0 1;at 0 6;"), 0, 7);
    }

    // 20: "-6: none (whatever k is, as told)"
    private static void planOfNone() {
        none(Edge.told(PLAIN + "one 0 1;"), 0, 0);
        none(Edge.told(PLAIN + "one 0 1;"), 0, 8);
        none(Edge.told("house 1 0 0 0 0 0 0 0;one 0 1;one 0 1;knows 1 0;"), 0, 0);
        plan(Edge.told("house 1 0 0 0 0 0 0 0;one 0 1;one 1 1;knows 1 0;"), 0, 0, 0);
        Edge.bad("20: no such place", Edge.told(PLAIN + "one 0 1;"), -10, "plan", 0, 9, -2);
        Edge.bad("20: no such place", Edge.told(PLAIN + "one 0 1;"), -10, "plan", 0, -1, 0);
        Edge.bad("20: not there", Edge.told(PLAIN + "one 0 1;"), -10, "plan", 1, 0, 0);
    }

    // The first MINUTE is the one that is now.
    private static void planOfOneMinute() {
        String child = PLAIN + "one 0 1;one 2 1;knows 1 0;";
        plan(Edge.told(child, 17), 0, 0, 0);
        plan(Edge.told(child, 23), 0, 0, -1, 0);
        plan(Edge.told(child, 18), 0, 0, -1, -1, -1, -1, -1, -1, 0);
        plan(Edge.told(child, 24), 0, 0, 0);
        String burglar = PLAIN + "one 0 1;one 4 1;knows 1 0;";
        plan(Edge.told(burglar), 0, 0, -1, 0);
        plan(Edge.told(burglar, 1), 0, 0, 0);
        plan(Edge.told(burglar, 23), 0, 0, 0);
        plan(Edge.told(burglar, 24), 0, 0, -1, 0);
        String seventh = "house 3 0 0 0 0 0 0 0;one 0 1;one 1 1;knows 1 0;";
        plan(Edge.told(seventh), 0, 0, 0);
        plan(Edge.told(seventh, 23), 0, 0, -1, 0);
    }

    /** A burglar and a widow are worth 5 together in minutes 19, 21, 23 of a day alone: one STEP in each. */
    private static Consumer<StairManners> nights(int minutes) {
        return Edge.told("house 5 5 5 5 5 5 5 5;one 0 12;one 4 1;one 5 1;"
            + "knows 1 0;knows 1 1;knows 1 2;knows 1 3;knows 2 0;knows 2 1;knows 2 2;knows 2 3;", minutes);
    }

    // "the fewest MINUTES (0 .. 40)"
    private static void planOfFortyMinutes() {
        int[] row = new int[40];
        Arrays.fill(row, -1);
        row[15] = 0;
        row[17] = 1;
        row[19] = 2;
        row[39] = 3;
        plan(nights(4), 0, 3, row);
        none(nights(3), 0, 3);
        none(nights(0), 0, 3);
        row = Arrays.copyOf(row, 39);
        Arrays.fill(row, -1);
        row[14] = 0;
        row[16] = 1;
        row[18] = 2;
        row[38] = 3;
        plan(nights(5), 0, 3, row);
        Edge.asked("20: three in one night", nights(3), 21, "plan", 0, 2, -2);
        Edge.asked("20: from MINUTE 24 on as from 0", nights(24), -6, "plan", 0, 3, -2);
        Edge.asked("20: from MINUTE 28 on as from 4", nights(28), 40, "plan", 0, 3, -2);
    }

    // "in the first such row (waiting (NONE) first ..)"
    private static void planWaitsFirst() {
        // STEPS 0 and 2 by a burglar's word in odd minutes alone, STEP 1 at any time: one minute is left over.
        String text = "house 0 4 0 0 0 0 0 0;one 0 5;one 4 1;knows 1 0;knows 1 2;";
        plan(Edge.told(text), 0, 2, -1, 0, 1, 2);
        plan(Edge.told(text, 1), 0, 2, 0, 1, 2);
        plan(Edge.told(text), 0, 1, 1, 0);
        plan(Edge.told(text, 1), 0, 1, 0, 1);
        plan(Edge.told(text + "knows 0 1;"), 0, 2, -1, 0, -1, 2);
        plan(Edge.told(text + "knows 0 0;"), 0, 2, 1, 2);
        plan(Edge.told(text + "knows 0 0;", 1), 0, 2, 2, 1);
    }

    // ".. then STEPS rising)"
    private static void planStepsRising() {
        Consumer<StairManners> gentle = Edge.told("house 4 4 4 4 4 4 4 4;one 0 5;");
        plan(gentle, 0, 8, 0, 1, 2, 3, 4, 5, 6, 7);
        // STEP 1 by a child's word till 17, STEP 0 at any time: the lower one may wait no longer than there is room.
        String child = "house 4 0 4 0 0 0 0 0;one 0 5;one 2 1;knows 1 1;";
        plan(Edge.told(child, 16), 0, 1, 0, 1);
        plan(Edge.told(child, 17), 0, 1, 1, 0);
        plan(Edge.told(child, 16), 0, 2, 0, 1, 2);
        plan(Edge.told(child, 17), 0, 2, 1, 0, 2);
        plan(Edge.told(child, 18), 0, 1, -1, -1, -1, -1, -1, 0, 1);
    }

    // "words as worth in that MINUTE", and what a STEP wants: over the end of a day.
    private static void planOfTheOtherDay() {
        // A SEVENTH wants 4 in odd minutes, a widow's word is worth 4 from 18 on.
        String text = "house 3 0 0 0 0 0 0 0;one 0 1;one 5 1;knows 1 0;";
        plan(Edge.told(text, 17), 0, 0, -1, 0);
        plan(Edge.told(text, 19), 0, 0, 0);
        plan(Edge.told(text, 23), 0, 0, 0);
        plan(Edge.told(text, 24), 0, 0, 0);
        plan(Edge.told(text, 25), 0, 0, -1, 0);
        String butler = "house 3 0 0 0 0 0 0 0;one 0 1;one 1 1;knows 1 0;";
        plan(Edge.told(butler, 47), 0, 0, -1, 0);
    }

    // "all others as they stand and KNOW now, no CARPETS"
    private static void planAsAllStandNow() {
        String heir = "house 1 0 0 0 0 0 0 0;one 0 1;one 3 1;knows 1 0;";
        none(Edge.told(heir), 0, 0);
        plan(Edge.told(heir + "at 1 0;"), 0, 0, 0);
        String carpet = PLAIN + "one 0 1;one 0 1;knows 0 0;knows 1 0;carpet 0;carpet 1;";
        none(Edge.told(carpet), 0, 1);
        none(Edge.told(carpet), 1, 1);
        plan(Edge.told(carpet + "minutes 1;"), 0, 1);
        none(Edge.told(carpet + "minutes 1;"), 0, 2);
        plan(Edge.told(carpet + "minutes 1;at 1 8;knows 1 2;"), 0, 2, 2);
    }

    // 20: "-5: not so many."
    private static void planNotSoMany() {
        Consumer<StairManners> gentle = Edge.told("house 4 4 4 4 4 4 4 4;one 0 5;");
        Edge.asked("20: the last", gentle, 7, "plan", 0, 8, 7);
        Edge.asked("20: not so many", gentle, -5, "plan", 0, 8, 8);
        Edge.asked("20: the first", gentle, 0, "plan", 0, 0, 0);
        Edge.asked("20: not so many", gentle, -5, "plan", 0, 0, 1);
        Edge.asked("20: of none at all", Edge.told(PLAIN + "one 0 1;at 0 8;"), -5, "plan", 0, 8, 0);
    }

    // "(Nothing is changed by these ..)": one plan is not to be seen in the next, longer, shorter or none.
    private static void planAskedAgain() {
        StairManners x = Edge.made(nights(4));
        String all = "";
        for (int round = 0; round < 4; round++) {
            StringBuilder answers = new StringBuilder();
            int[][] asked = {{3, -2}, {3, 39}, {3, 38}, {0, -2}, {0, 15}, {8, 0}, {2, 19}, {2, 20}, {1, 17}, {3, 17}, {0, 14}, {3, 15}};
            for (int[] a : asked) {
                answers.append(x.plan(0, a[0], a[1])).append(' ');
            }
            Due.holds("20: asked again: " + answers, all.isEmpty() || all.equals(answers.toString()));
            all = answers.toString();
        }
        Due.holds("20: " + all, all.equals("40 3 -1 16 0 -6 2 -5 1 1 -1 0 "));
        x = Edge.made(Edge.told("house 4 4 4 4 4 4 4 4;one 0 5;one 4 1;one 0 6;knows 1 0;knows 1 1;"));
        for (int round = 0; round < 3; round++) {
            for (int k = 7; k >= 0; k--) {
                Due.is("20: of one", x.plan(0, 8, k), k);
                Due.is("20: of another, by a burglar's word", x.plan(2, 1, k), k > 3 ? -5 : k % 2 == 0 ? -1 : k / 2);
                Due.is("20: of a third one, from STEP 2 on", x.plan(1, 7, k), k > 5 ? -5 : k + 2);
            }
        }
        // STEP 2 by a widow's word from 18 on, STEP 1 by a burglar's in odd minutes, STEP 0 at any time.
        x = Edge.made(Edge.told("house 4 0 5 0 0 0 0 0;one 0 5;one 4 1;one 5 1;knows 1 1;knows 2 2;"));
        for (int round = 0; round < 3; round++) {
            Due.is("20: the long one", x.plan(0, 2, -2), 19);
            Due.is("20: the long one's last", x.plan(0, 2, 18), 2);
            Due.is("20: the long one's first", x.plan(0, 2, 0), -1);
            Due.is("20: the short one's first", x.plan(0, 1, 0), 0);
            Due.is("20: the short one's last", x.plan(0, 1, 1), 1);
            Due.is("20: no more of it", x.plan(0, 1, 2), -5);
        }
    }
}
