import java.util.function.Consumer;

/** The sentences of 'Terms' that name a boundary: kinds of steps and of people, words, minutes, carpets. */
public final class EdgesOfTermsTest {
    private static final int PLAIN = 0, PROUD = 1, CREAKY = 2, SEVENTH = 3, GENTLE = 4, MARBLE = 5;
    private static final int GUEST = 0, BUTLER = 1, CHILD = 2, HEIR = 3, BURGLAR = 4, WIDOW = 5;

    public static void main(String[] args) {
        creakyByWholeFours();
        gentleOfFive();
        marbleFiveAtMost();
        seventhByOddMinutes();
        plainAndProudInAnyCase();
        eveningBeginsAtEighteen();
        heirInTheHall();
        burglarByOddMinutes();
        guestAndButlerInAnyCase();
        dayOfTheLastMinute();
        wordOfNoneAndOfFive();
        wordJustEnough();
        wordOfTheMinuteAhead();
        minuteByCarpet();
        minuteByKinds();
        carpetsAllAtOnce();
        newStepIsToldOn();
        Due.finish();
    }

    private static String house(int kind, int weight) {
        return "house " + kind + " 0 0 0 0 0 0 0;one 0 " + weight + ";";
    }

    /** What a step of a kind wants: now by 15, and by 23 and 26 as what was noted. */
    private static void wants(int kind, int weight, int minute, int due) {
        String sentence = "15: KIND " + kind + ", WEIGHT " + weight + ", MINUTE " + minute;
        Edge.asked(sentence, Edge.told(house(kind, weight), minute), due, "asks", 0, 0, 0);
        for (int x = 0; x <= 9; x++) {
            StairManners noted = new StairManners();
            noted.note(3, weight, minute % 24, x);
            Due.is("26: noted " + x + " of " + sentence, noted.is(3) >> kind & 1, x == due ? 1 : 0);
        }
    }

    // "CREAKY (under PLAIN): PLAIN, and 1 for each whole 4 of g."
    private static void creakyByWholeFours() {
        int[][] due = {{1, 1}, {3, 1}, {4, 2}, {5, 2}, {7, 2}, {8, 3}, {9, 3}, {11, 3}, {12, 4}};
        for (int[] d : due) {
            wants(CREAKY, d[0], 0, d[1]);
            wants(CREAKY, d[0], 23, d[1]);
        }
    }

    // "GENTLE (under PLAIN): 0, if g is 5 or less, else as PLAIN."
    private static void gentleOfFive() {
        int[][] due = {{1, 0}, {4, 0}, {5, 0}, {6, 1}, {7, 1}, {12, 1}};
        for (int[] d : due) {
            wants(GENTLE, d[0], 0, d[1]);
            wants(GENTLE, d[0], 1, d[1]);
        }
    }

    // "MARBLE (under CREAKY): twice CREAKY, 5 at most."
    private static void marbleFiveAtMost() {
        int[][] due = {{1, 2}, {3, 2}, {4, 4}, {7, 4}, {8, 5}, {11, 5}, {12, 5}};
        for (int[] d : due) {
            wants(MARBLE, d[0], 0, d[1]);
            wants(MARBLE, d[0], 1, d[1]);
        }
    }

    // "SEVENTH (under PROUD): PROUD, 2 more, if t is an odd number."; "of a day: that by 24 left over"
    private static void seventhByOddMinutes() {
        int[][] due = {{0, 2}, {1, 4}, {2, 2}, {17, 4}, {18, 2}, {22, 2}, {23, 4}, {24, 2}, {25, 4}, {47, 4}, {48, 2}};
        for (int[] d : due) {
            wants(SEVENTH, 1, d[0], d[1]);
            wants(SEVENTH, 12, d[0], d[1]);
        }
    }

    // "0 PLAIN: 1. 1 PROUD (under PLAIN): 1 more than PLAIN."
    private static void plainAndProudInAnyCase() {
        for (int weight : new int[] {1, 4, 5, 6, 12}) {
            for (int minute : new int[] {0, 1, 17, 18, 23, 24}) {
                wants(PLAIN, weight, minute, 1);
                wants(PROUD, weight, minute, 2);
            }
        }
    }

    /** What a word of a kind is worth: now by 16, and by 24 and 28 as what was marked. */
    private static void worth(int kind, int place, int minute, int due) {
        String sentence = "16: KIND " + kind + ", from " + place + ", MINUTE " + minute;
        String at = place == -1 ? "" : "at 0 " + place + ";";
        String text = "house 0 0 0 0 0 0 0 0;one " + kind + " 7;" + at;
        Edge.asked(sentence, Edge.told(text, minute), due, "word", 0);
        for (int x = 0; x <= 9; x++) {
            StairManners marked = Edge.made(Edge.told("house 0 0 0 0 0 0 0 0;one 0 1;"));
            marked.mark(0, place, minute % 24, x);
            Due.is("28: marked " + x + " of " + sentence, marked.kinds(0) >> kind & 1, x == due ? 1 : 0);
        }
    }

    // "CHILD: 0, if t is 18 or more, else as GUEST."; "WIDOW: twice BUTLER from 18 on, else as BUTLER."
    private static void eveningBeginsAtEighteen() {
        int[] late = {18, 19, 22, 23, 42, 47};
        int[] early = {0, 1, 16, 17, 24, 25, 41, 48};
        for (int place : new int[] {-1, 0, 8}) {
            for (int minute : late) {
                worth(CHILD, place, minute, 0);
                worth(WIDOW, place, minute, 4);
            }
            for (int minute : early) {
                worth(CHILD, place, minute, 1);
                worth(WIDOW, place, minute, 2);
            }
        }
    }

    // "HEIR (under BUTLER): as BUTLER, 1 less in the hall."
    private static void heirInTheHall() {
        for (int minute : new int[] {0, 1, 17, 18, 23, 24}) {
            worth(HEIR, -1, minute, 1);
            for (int place : new int[] {0, 1, 7, 8}) {
                worth(HEIR, place, minute, 2);
            }
        }
        StairManners x = Edge.made(Edge.told("house 0 0 0 0 0 0 0 0;one 3 1;at 0 0;"));
        Due.is("16: on STEP 0", x.word(0), 2);
        x.goes(0, 0);
        Due.is("16: in the hall again", x.word(0), 1);
        x.undo();
        Due.is("16: undone", x.word(0), 2);
    }

    // "BURGLAR (under GUEST): GUEST, if t is an odd number, else 0."
    private static void burglarByOddMinutes() {
        for (int place : new int[] {-1, 0, 8}) {
            for (int minute : new int[] {1, 3, 17, 19, 23, 25, 47}) {
                worth(BURGLAR, place, minute, 1);
            }
            for (int minute : new int[] {0, 2, 18, 22, 24, 48}) {
                worth(BURGLAR, place, minute, 0);
            }
        }
    }

    // "0 GUEST: 1. 1 BUTLER (under GUEST): 1 more than GUEST."
    private static void guestAndButlerInAnyCase() {
        for (int place : new int[] {-1, 0, 8}) {
            for (int minute : new int[] {0, 1, 17, 18, 23, 24}) {
                worth(GUEST, place, minute, 1);
                worth(BUTLER, place, minute, 2);
            }
        }
    }

    // "MINUTES have numbers, 0 at first (9999 at most; of a day: that by 24 left over)": 9999 is 416 days and 15.
    private static void dayOfTheLastMinute() {
        String text = "house 3 0 0 0 0 0 0 0;one 4 1;one 2 1;one 5 1;";
        int[][] due = {{9984, 0, 1, 2, 2}, {9983, 1, 0, 4, 4}, {9977, 1, 1, 2, 4}, {9978, 0, 0, 4, 2}, {9998, 0, 1, 2, 2}, {9999, 1, 1, 2, 4}};
        for (int[] d : due) {
            StairManners x = Edge.made(Edge.told(text, d[0]));
            for (int i = 0; i < 3; i++) {
                Due.is("16: word of " + i + " in MINUTE " + d[0], x.word(i), d[1 + i]);
            }
            Due.is("15: a SEVENTH in MINUTE " + d[0], x.asks(0, 0, 0), d[4]);
        }
    }

    // "WORD for one to a STEP: what the words of all others who KNOW it are worth now, together."
    private static void wordOfNoneAndOfFive() {
        String plain = "house 0 0 0 0 0 0 0 0;";
        Edge.asked("15: nobody else is there", Edge.told(plain + "one 1 1;knows 0 0;"), 0, "asks", 0, 0, 1);
        Edge.asked("15: no other KNOWS it", Edge.told(plain + "one 1 1;one 1 1;knows 1 1;"), 0, "asks", 0, 0, 1);
        String widows = plain + "one5 1;one5 1;one5 1;one5 1;one5 1;one5 1;knows0 0;knows1 0;knows2 0;knows3 0;knows4 0;knows5 0;";
        for (int i = 0; i < 6; i++) {
            Edge.asked("15: five others, from 18 on", Edge.told(widows, 18), 20, "asks", i, 0, 1);
            Edge.asked("15: five others, ahead of it", Edge.told(widows, 17), 10, "asks", i, 0, 1);
        }
        String ends = plain + "one1 1;one0 1;one0 1;one0 1;one0 1;one3 1;knows0 7;knows5 7;";
        Edge.asked("15: the first and the last", Edge.told(ends), 3, "asks", 1, 7, 1);
        Edge.asked("15: the first of the last", Edge.told(ends), 2, "asks", 5, 7, 1);
        Edge.asked("15: the last of the first", Edge.told(ends), 1, "asks", 0, 7, 1);
    }

    /** A step of a kind, one of weight 12, five others; guests as many as told KNOW it. */
    private static Consumer<StairManners> spokenFor(int kind, int weight, int guests) {
        StringBuilder text = new StringBuilder("house" + kind + " 0 0 0 0 0 0 0;one0 " + weight + ";");
        for (int k = 0; k < 5; k++) {
            text.append("one0 1;");
        }
        for (int k = 1; k <= guests; k++) {
            text.append("knows").append(k).append(" 0;");
        }
        return Edge.told(text.toString());
    }

    // "INTRODUCING one to a STEP: if the WORD is as much as it wants, or more, one KNOWS it from now on"
    private static void wordJustEnough() {
        int[][] wants = {{PLAIN, 12, 1}, {PROUD, 12, 2}, {CREAKY, 3, 1}, {CREAKY, 4, 2}, {CREAKY, 8, 3}, {CREAKY, 12, 4},
            {SEVENTH, 12, 2}, {GENTLE, 5, 0}, {GENTLE, 6, 1}, {MARBLE, 3, 2}, {MARBLE, 4, 4}, {MARBLE, 12, 5}};
        for (int[] w : wants) {
            for (int guests = 0; guests <= 5; guests++) {
                int could = guests >= w[2] ? 1 : 0;
                String sentence = "KIND " + w[0] + ", WEIGHT " + w[1] + ", " + guests + " words";
                Edge.asked("15: " + sentence, spokenFor(w[0], w[1], guests), could, "asks", 0, 0, 2);
                StairManners x = Edge.taken("7: " + sentence, spokenFor(w[0], w[1], guests), could, "meets", 0, 0);
                Due.is("7: from now on: " + sentence, x.of(0, 3), could);
                Due.is("7: a MINUTE in any case: " + sentence, x.count(1), 1);
            }
        }
    }

    // The words, and what is wanted, are those of the MINUTE ahead of the one that goes by.
    private static void wordOfTheMinuteAhead() {
        String child = "house 0 0 0 0 0 0 0 0;one 0 1;one 2 1;knows 1 0;";
        Edge.taken("7: a child in MINUTE 17", Edge.told(child, 17), 1, "meets", 0, 0);
        Edge.taken("7: a child in MINUTE 18", Edge.told(child, 18), 0, "meets", 0, 0);
        Edge.taken("7: a child in MINUTE 23", Edge.told(child, 23), 0, "meets", 0, 0);
        Edge.taken("7: a child in MINUTE 24", Edge.told(child, 24), 1, "meets", 0, 0);
        String seventh = "house 3 0 0 0 0 0 0 0;one 0 1;one 1 1;knows 1 0;";
        Edge.taken("7: a seventh in MINUTE 0", Edge.told(seventh), 1, "meets", 0, 0);
        Edge.taken("7: a seventh in MINUTE 1", Edge.told(seventh, 1), 0, "meets", 0, 0);
        Edge.taken("7: a seventh in MINUTE 23", Edge.told(seventh, 23), 0, "meets", 0, 0);
        Edge.taken("7: a seventh in MINUTE 24", Edge.told(seventh, 24), 1, "meets", 0, 0);
        Edge.taken("7: in the last one but one", Edge.told(seventh, 9998), 1, "meets", 0, 0);
    }

    private static void knowsThen(String sentence, String text, int due) {
        StairManners x = Edge.made(Edge.told(text));
        Due.is("19: " + sentence, x.then(0, 1), due);
        x.waits(1);
        Due.is("9: " + sentence, x.of(0, 3), due);
        x = Edge.made(Edge.told(text));
        x.goes(0, 0);
        Due.is("8: " + sentence, x.of(0, 3), due);
        Due.is("6: " + sentence, Edge.made(Edge.told(text + "minutes 1;")).of(0, 3), due);
    }

    // "then, by all CARPETS at once, each name that STEP k had ahead of it is told on to k and 1"
    private static void minuteByCarpet() {
        String plain = "house 0 0 0 0 0 0 0 0;one 0 1;at 0 5;";
        for (int k = 0; k < 7; k++) {
            knowsThen("CARPET " + k, plain + "knows 0 " + k + ";carpet " + k + ";", 3 << k);
            knowsThen("CARPET " + k + " not down", plain + "knows 0 " + (k + 1) + ";carpet " + k + ";", 2 << k);
            knowsThen("no CARPET " + k, plain + "knows 0 " + k + ";carpet " + (k + 3) % 7 + ";", 1 << k);
        }
        knowsThen("STEP 7 tells to none", plain + "knows 0 7;carpet 0;carpet 6;", 128);
        StairManners x = Edge.made(Edge.told("house0 0 0 0 0 0 0 0;one0 1;one0 1;one0 1;one0 1;one0 1;one0 1;knows0 0;knows5 0;carpet0;"));
        Due.is("9: each name of six", x.waits(1), 4);
        Due.is("9: the first and the last", x.about(1, 1), 33);
    }

    // "if the KIND of k and 1 itself is GENTLE or PLAIN (no other one, though under PLAIN)"
    private static void minuteByKinds() {
        for (int from = 0; from < 6; from++) {
            for (int to = 0; to < 6; to++) {
                boolean told = to == PLAIN || to == GENTLE;
                knowsThen("from KIND " + from + " to KIND " + to,
                    "house " + from + " " + to + " 0 0 0 0 0 0;one 0 12;at 0 5;knows 0 0;carpet 0;", told ? 3 : 1);
                knowsThen("from KIND " + from + " to KIND " + to + ", the last CARPET",
                    "house 0 0 0 0 0 0 " + from + " " + to + ";one 0 12;at 0 5;knows 0 6;carpet 6;", told ? 192 : 64);
            }
        }
        Edge.asked("18: to a PROUD one", Edge.told("house 0 1 0 0 0 0 0 0;one 0 1;knows 0 0;carpet 0;"), -1, "hears", 0, 1);
    }

    // "by all CARPETS at once": one STEP a MINUTE, however many lie.
    private static void carpetsAllAtOnce() {
        String text = "house 0 0 0 0 0 0 0 0;one 0 1;knows 0 0;carpet 6;carpet 5;carpet 4;carpet 3;carpet 2;carpet 1;carpet 0;";
        StairManners x = Edge.made(Edge.told(text));
        for (int m = 0; m <= 9; m++) {
            int due = (1 << Math.min(m + 1, 8)) - 1;
            Edge.asked("19: behind " + m, Edge.told(text), due, "then", 0, m);
            Due.is("9: behind " + m, x.of(0, 3), due);
            x.waits(1);
        }
        x = Edge.taken("9: together", Edge.told(text), 7, "waits", 6);
        Due.is("9: behind six", x.of(0, 3), 127);
        Due.is("6: minutes told", Edge.made(Edge.told(text + "minutes 3;")).of(0, 3), 15);
    }

    // INTRODUCING, PUT IN NEW come ahead of the MINUTE: a name then known is told on, one forgotten is not.
    private static void newStepIsToldOn() {
        StairManners x = Edge.taken("7: told on in the same MINUTE", Edge.told("house 4 0 0 0 0 0 0 0;one 0 5;carpet 0;carpet 1;"), 1, "meets", 0, 0);
        Due.is("7: to the next alone", x.of(0, 3), 3);
        x = Edge.made(Edge.told("house 0 0 0 0 0 0 0 0;one 0 5;knows 0 0;carpet 0;"));
        x.step(0, 0);
        Due.is("11: forgotten, so not told on", x.waits(1), 0);
        x = Edge.made(Edge.told("house 0 1 0 0 0 0 0 0;one 0 5;knows 0 0;carpet 0;minutes 9;"));
        Due.is("9: not to a PROUD one", x.count(2), 1);
        x.step(1, 4);
        Due.is("11: to a GENTLE one put in new", x.waits(1), 2);
        x.step(1, 2);
        Due.is("11: not to a CREAKY one put in new", x.waits(1), 1);
    }
}
