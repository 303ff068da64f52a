import java.lang.reflect.InvocationTargetException;
import java.util.ArrayList;
import java.util.Arrays;
import java.util.List;
import java.util.function.Consumer;

/**
 * Calls at a boundary: what they answer, what they count, and what they leave as it was.
 * Each is made on one of two objects alike, so that all that can be asked of both shows what it changed.
 */
final class Edge {
    /** Reasons, as status() numbers them. */
    static final int BAD = 0, NO = 1, FULL = 2;
    private static final int NOT_REFUSED = -1;

    /** 150 bytes: six people, all that a text can tell, 396 minutes. */
    private static final String LONGEST_TEXT = "house4 0 1 2 3 4 5 0;one0 1;one1 5;one2 6;one3 12;one4 4;one5 8;"
        + "knows0 0;knows5 1;carpet6;carpet0;at0 8;at1 7;minutes99;minutes99;minutes99;minutes99;";

    private Edge() {
    }

    // ---- objects to begin with

    /** A new object. */
    static void nothing(StairManners x) {
    }

    /** A house that a text tells. */
    static Consumer<StairManners> told(String text) {
        return x -> Due.holds("read of " + text, read(x, text) > 0);
    }

    /** The same, so many minutes later. */
    static Consumer<StairManners> told(String text, int minutes) {
        return told(text).andThen(x -> pass(x, minutes));
    }

    /** Six people, and room for more of everything else. */
    static void six(StairManners x) {
        for (int i = 0; i < 6; i++) {
            x.one(i, 2 * i + 1);
        }
        x.step(0, 4);
        x.meets(0, 0);
        x.meets(2, 0);
        x.carpet(1, 1);
        x.goes(0, 1);
        x.seen(1, 2, 0);
        x.note(0, 3, 4, 1);
        x.mark(1, 2, 3, 2);
        x.slips(5, 0, 3);
        x.image(0);
        x.image(1);
        x.type('x');
    }

    /** All at its limit: 6 people, 6 of each row, 150 bytes, 8 that may be undone, the last minute. */
    static void limits(StairManners x) {
        read(x, LONGEST_TEXT);
        x.slips(3, 0, 3);
        x.image(0);
        pass(x, 158 * 60);
        for (int k = 0; k < 6; k++) {
            x.seen(k, k, k % 2);
            x.note(k, k + 1, k, k);
            x.mark(k, k - 1, k, k);
        }
        x.image(1);
        x.waits(60);
        x.waits(60);
        x.meets(1, 0);
        x.goes(1, 0);
        x.waits(1);
        x.carpet(6, 0);
        x.carpet(4, 1);
        x.step(7, 3);
    }

    static void pass(StairManners x, int minutes) {
        for (int rest = minutes; rest > 0; rest -= 60) {
            x.waits(Math.min(rest, 60));
        }
    }

    static void type(StairManners x, String text) {
        for (int k = 0; k < text.length(); k++) {
            x.type(text.charAt(k));
        }
    }

    static int read(StairManners x, String text) {
        x.clear();
        type(x, text);
        return x.read();
    }

    // ---- calls

    static long call(StairManners x, String name, int... numbers) {
        Class<?>[] types = new Class<?>[numbers.length];
        Object[] values = new Object[numbers.length];
        for (int k = 0; k < numbers.length; k++) {
            types[k] = int.class;
            values[k] = numbers[k];
        }
        try {
            return ((Number) StairManners.class.getMethod(name, types).invoke(x, values)).longValue();
        } catch (InvocationTargetException thrown) {
            throw new IllegalStateException(name + Arrays.toString(numbers) + " threw", thrown.getCause());
        } catch (ReflectiveOperationException missing) {
            throw new IllegalStateException("no call " + name, missing);
        }
    }

    static void bad(String sentence, Consumer<StairManners> ahead, long answer, String name, int... numbers) {
        leaves(sentence, ahead, BAD, answer, name, numbers);
    }

    static void no(String sentence, Consumer<StairManners> ahead, String name, int... numbers) {
        leaves(sentence, ahead, NO, -3, name, numbers);
    }

    static void full(String sentence, Consumer<StairManners> ahead, String name, int... numbers) {
        leaves(sentence, ahead, FULL, -4, name, numbers);
    }

    /** A call that is not refused, and changes nothing. */
    static void asked(String sentence, Consumer<StairManners> ahead, long answer, String name, int... numbers) {
        leaves(sentence, ahead, NOT_REFUSED, answer, name, numbers);
    }

    /** A call that is not refused: what is there behind it. */
    static StairManners taken(String sentence, Consumer<StairManners> ahead, long answer, String name, int... numbers) {
        StairManners x = made(ahead);
        int[] counted = status(x);
        String call = sentence + ": " + name + Arrays.toString(numbers);
        Due.is(call, call(x, name, numbers), answer);
        Due.holds(call + " is not counted in STATUS", Arrays.equals(counted, status(x)));
        return x;
    }

    static StairManners made(Consumer<StairManners> ahead) {
        StairManners x = new StairManners();
        ahead.accept(x);
        return x;
    }

    private static void leaves(String sentence, Consumer<StairManners> ahead, int reason, long answer, String name, int... numbers) {
        StairManners with = made(ahead);
        StairManners without = made(ahead);
        String call = sentence + ": " + name + Arrays.toString(numbers);
        int[] counted = status(with);
        if (reason != NOT_REFUSED) {
            counted[reason]++;
        }
        Due.is(call, call(with, name, numbers), answer);
        Due.holds(call + " counts in STATUS as " + reason, Arrays.equals(status(with), counted));
        List<Long> due = all(without);
        List<Long> got = all(with);
        Due.holds(call + " leaves all else: " + got + ", due is " + due, got.equals(due));
    }

    static int[] status(StairManners x) {
        return new int[] {x.status(0), x.status(1), x.status(2)};
    }

    /** All that can be asked of an object; it is of no use behind this. */
    static List<Long> all(StairManners x) {
        List<Long> all = new ArrayList<>();
        all.add(x.part(0));
        all.add(x.part(1));
        for (int i = 0; i < 6; i++) {
            all.add((long) x.of(i, 2));
            all.add((long) x.of(i, 3));
        }
        for (int s = 0; s < 8; s++) {
            all.add((long) x.about(s, 0));
        }
        foretold(x, all);
        undone(x, all);
        for (int i = 0; i < 2; i++) {
            all.add((long) x.from(i));
            undone(x, all);
        }
        all.add((long) x.read());
        all.add(x.digest());
        return all;
    }

    /** What is only asked: a question must not show in what another one answers. */
    private static void foretold(StairManners x, List<Long> all) {
        for (int i = 0; i < 6; i++) {
            int[] answers = {x.plan(i, 8, 0), x.plan(i, 3, -2), x.plan(i, 3, 1), x.hears(i, 7), x.then(i, 3), x.may(i, 1),
                x.kinds(i), x.ask(i)};
            for (int answer : answers) {
                all.add((long) answer);
            }
        }
        all.add((long) x.is(0));
        all.add((long) x.look(7));
        all.add((long) x.evenings(7, 9));
    }

    /** As it stands now, and behind each undo, to the last that may be. */
    private static void undone(StairManners x, List<Long> all) {
        long answer = 0;
        for (int k = 0; k < 12 && answer != -3; k++) {
            all.add(x.digest());
            answer = x.undo();
            all.add(answer);
        }
    }
}
