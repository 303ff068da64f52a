import java.util.Arrays;
import java.util.function.Consumer;

/**
 * "BAD a number is not as told": of each call's each number the last one that is told, and the first that is not,
 * on both sides; with all else at its limit too, since BAD is the first reason of all.
 */
public final class EdgesOfNumbersTest {
    private static final int[] PERSON = {0, 5};
    private static final int[] STEP = {0, 7};
    private static final int[] KIND = {0, 5};
    private static final int[] WEIGHT = {1, 12};
    private static final int[] HOUR = {0, 23};
    private static final int[] YES_OR_NO = {0, 1};
    private static final int[] TO_TWO = {0, 2};
    private static final int[] TO_SIXTY = {0, 60};
    private static final int[] WORTH = {0, 9};

    public static void main(String[] args) {
        ranges();
        rangesOfPlan();
        peopleWhoAreNotThere();
        hostsUnlike();
        twoWrongNumbersAreOneRefusal();
        Due.finish();
    }

    private static void ranges() {
        bounds("3", "one", -2, KIND, WEIGHT);
        bounds("4", "type", -2, new int[] {0, 127});
        bounds("7", "meets", -2, PERSON, STEP);
        bounds("8", "goes", -10, PERSON, YES_OR_NO);
        bounds("9", "waits", -2, new int[] {1, 60});
        bounds("10", "carpet", -2, new int[] {0, 6}, YES_OR_NO);
        bounds("11", "step", -2, STEP, KIND);
        bounds("13", "of", -10, PERSON, new int[] {0, 3});
        bounds("14", "about", -2, STEP, TO_TWO);
        bounds("15", "asks", -2, PERSON, STEP, TO_TWO);
        bounds("16", "word", -2, PERSON);
        bounds("17", "high", -10, PERSON);
        bounds("18", "hears", -2, PERSON, STEP);
        bounds("19", "then", -2, PERSON, TO_SIXTY);
        bounds("21", "seen", -2, PERSON, STEP, YES_OR_NO);
        bounds("22", "may", -2, PERSON, TO_TWO);
        bounds("23", "note", -2, STEP, WEIGHT, HOUR, WORTH);
        bounds("24", "mark", -2, PERSON, new int[] {-1, 8}, HOUR, WORTH);
        bounds("25", "forget", -2, TO_TWO);
        bounds("26", "is", -2, STEP);
        bounds("27", "look", -2, STEP);
        bounds("28", "kinds", -2, PERSON);
        bounds("29", "ask", -2, PERSON);
        bounds("31", "slips", -2, PERSON, STEP, new int[] {0, 10});
        bounds("32", "evenings", -2, new int[] {0, 999999}, TO_SIXTY);
        bounds("33", "part", -2, YES_OR_NO);
        bounds("34", "image", -2, YES_OR_NO);
        bounds("35", "from", -2, YES_OR_NO);
        bounds("36", "status", -1, TO_TWO);
        bounds("37", "count", -2, new int[] {0, 9});
    }

    /** All corners are taken; one number out of its range, the others at either end, is refused. */
    private static void bounds(String promise, String name, long bad, int[]... told) {
        for (int corner = 0; corner < 1 << told.length; corner++) {
            int[] numbers = new int[told.length];
            for (int k = 0; k < told.length; k++) {
                numbers[k] = told[k][corner >> k & 1];
            }
            isTold(promise, name, numbers);
            for (int k = 0; k < told.length; k++) {
                int[] outside = {told[k][0] - 1, told[k][1] + 1, Integer.MIN_VALUE, Integer.MAX_VALUE};
                for (int number : outside) {
                    int[] wrong = numbers.clone();
                    wrong[k] = number;
                    isBad(promise, name, bad, wrong);
                }
            }
        }
    }

    private static void isTold(String promise, String name, int... numbers) {
        StairManners x = Edge.made(Edge::six);
        int counted = x.status(0);
        Edge.call(x, name, numbers);
        Due.is(promise + ": " + name + Arrays.toString(numbers) + " is not BAD", x.status(0), counted);
    }

    private static void isBad(String promise, String name, long bad, int... numbers) {
        Edge.bad(promise + ": BAD", Edge::six, bad, name, numbers);
        Edge.bad(promise + ": BAD, though all is full", Edge::limits, bad, name, numbers);
    }

    // 20: "BAD: -10: k = -1, k below -2, too"; k is -2 or from 0 on.
    private static void rangesOfPlan() {
        for (int k : new int[] {-2, 0, Integer.MAX_VALUE}) {
            bounds("20", k);
        }
        for (int k : new int[] {-1, -3, Integer.MIN_VALUE}) {
            isBad("20", "plan", -10, 0, 0, k);
            isBad("20", "plan", -10, 5, 8, k);
            isBad("20", "plan", -10, -1, 9, k);
        }
    }

    private static void bounds(String promise, int k) {
        for (int i : PERSON) {
            isBad(promise, "plan", -10, i, -1, k);
            isBad(promise, "plan", -10, i, 9, k);
            isBad(promise, "plan", -10, i, Integer.MIN_VALUE, k);
            isBad(promise, "plan", -10, i, Integer.MAX_VALUE, k);
            for (int p : new int[] {0, 8}) {
                isTold(promise, "plan", i, p, k);
            }
        }
        for (int p : new int[] {0, 8}) {
            for (int i : new int[] {-1, 6, Integer.MIN_VALUE, Integer.MAX_VALUE}) {
                isBad(promise, "plan", -10, i, p, k);
            }
        }
    }

    // "PEOPLE 0 .. 5, as they come": the last one who is there, the first who is not.
    private static void peopleWhoAreNotThere() {
        for (int people = 0; people <= 6; people++) {
            int many = people;
            Consumer<StairManners> ahead = x -> {
                for (int i = 0; i < many; i++) {
                    x.one(0, 1);
                }
            };
            calls(ahead, people);
            if (people > 0) {
                StairManners x = Edge.made(ahead);
                askAll(x, people - 1);
                Due.is("the last of " + people + " is there", x.status(0), 0);
            }
        }
    }

    private static void calls(Consumer<StairManners> ahead, int i) {
        Edge.bad("7: not there", ahead, -2, "meets", i, 0);
        Edge.bad("8: not there", ahead, -10, "goes", i, 1);
        Edge.bad("13: not there", ahead, -10, "of", i, 0);
        Edge.bad("15: not there", ahead, -2, "asks", i, 0, 0);
        Edge.bad("16: not there", ahead, -2, "word", i);
        Edge.bad("17: not there", ahead, -10, "high", i);
        Edge.bad("18: not there", ahead, -2, "hears", i, 0);
        Edge.bad("19: not there", ahead, -2, "then", i, 0);
        Edge.bad("20: not there", ahead, -10, "plan", i, 0, -2);
        Edge.bad("21: not there", ahead, -2, "seen", i, 0, 0);
        Edge.bad("22: not there", ahead, -2, "may", i, 0);
        Edge.bad("24: not there", ahead, -2, "mark", i, 0, 0, 0);
        Edge.bad("28: not there", ahead, -2, "kinds", i);
        Edge.bad("29: not there", ahead, -2, "ask", i);
        Edge.bad("30: a is not there", ahead, -2, "hosts", i, 0, 1, 0);
        Edge.bad("30: b is not there", ahead, -2, "hosts", 0, i, 1, 0);
        Edge.bad("30: c is not there", ahead, -2, "hosts", 0, 1, i, 0);
        Edge.bad("31: not there", ahead, -2, "slips", i, 0, 0);
    }

    private static void askAll(StairManners x, int i) {
        x.meets(i, 0);
        x.goes(i, 1);
        x.of(i, 0);
        x.asks(i, 0, 0);
        x.word(i);
        x.high(i);
        x.hears(i, 0);
        x.then(i, 0);
        x.plan(i, 0, -2);
        x.seen(i, 0, 0);
        x.may(i, 0);
        x.mark(i, 0, 0, 0);
        x.kinds(i);
        x.ask(i);
        x.slips(i, 0, 0);
        if (i >= 2) {
            x.hosts(i, 0, 1, 0);
            x.hosts(0, i, 1, 0);
            x.hosts(0, 1, i, 0);
        }
    }

    // 30: "BAD: two alike of a, b, c, too"; all know step 0, so that nothing else is refused.
    private static void hostsUnlike() {
        Consumer<StairManners> ahead = x -> {
            x.step(0, 4);
            x.step(7, 4);
            for (int i = 0; i < 6; i++) {
                x.one(0, 1);
                x.meets(i, 0);
                x.meets(i, 7);
            }
        };
        for (int a = -1; a <= 6; a++) {
            for (int b = -1; b <= 6; b++) {
                for (int c = -1; c <= 6; c++) {
                    boolean there = Math.min(a, Math.min(b, c)) >= 0 && Math.max(a, Math.max(b, c)) <= 5;
                    host(ahead, there && a != b && a != c && b != c, a, b, c);
                }
            }
        }
        for (int s : new int[] {-1, 8, Integer.MIN_VALUE, Integer.MAX_VALUE}) {
            Edge.bad("30: no such step", ahead, -2, "hosts", 0, 1, 2, s);
        }
        Edge.asked("30: the last step", ahead, 1, "hosts", 0, 1, 2, 7);
    }

    private static void host(Consumer<StairManners> ahead, boolean told, int a, int b, int c) {
        if (told) {
            Edge.asked("30: three unlike ones", ahead, 1, "hosts", a, b, c, 0);
        } else {
            Edge.bad("30: BAD", ahead, -2, "hosts", a, b, c, 0);
        }
    }

    // STATUS: "how many calls were refused": one call is one, whatever is wrong with it.
    private static void twoWrongNumbersAreOneRefusal() {
        Edge.bad("36: all wrong", Edge::limits, -2, "note", -1, 13, 24, 10);
        Edge.bad("36: all wrong", Edge::limits, -2, "mark", 6, 9, -1, -1);
        Edge.bad("36: all wrong", Edge::limits, -2, "hosts", 6, 6, -1, 8);
        Edge.bad("36: all wrong", Edge::limits, -10, "plan", 6, 9, -1);
        Edge.bad("36: all wrong", Edge::limits, -10, "goes", 6, 2);
    }
}
