import java.lang.reflect.Method;
import java.lang.reflect.Modifier;
import java.util.ArrayList;
import java.util.Arrays;
import java.util.Comparator;
import java.util.List;
import java.util.Random;

/** Runs of 512 calls by a seed, asked of the class and of Model: each answer must be the same. */
public final class RandomRunsTest {
    private static final int RUNS = 1500;
    private static final int CALLS = 512;

    public static void main(String[] args) throws Exception {
        List<Method> calls = new ArrayList<>();
        for (Method m : StairManners.class.getDeclaredMethods()) {
            if (Modifier.isPublic(m.getModifiers())) {
                calls.add(m);
            }
        }
        calls.sort(Comparator.comparing(Method::getName));
        int runs = args.length > 0 ? Integer.parseInt(args[0]) : RUNS;
        for (int run = 0; run < runs; run++) {
            if (!new RandomRunsTest(run, calls).goesWell()) {
                break;
            }
        }
        Due.finish();
    }

    private final Random random;
    private final int run;
    private final List<Method> calls;
    private final StairManners x = new StairManners();
    private final Model model = new Model();
    private final List<String> told = new ArrayList<>();
    private boolean well = true;
    /** How dear wrong numbers are in this run: one in so many. */
    private final int wrongOnes;

    private RandomRunsTest(int run, List<Method> calls) {
        this.run = run;
        this.calls = calls;
        random = new Random(run);
        wrongOnes = run % 3 == 0 ? 8 : 60;
    }

    private boolean goesWell() throws Exception {
        if (run % 4 != 0) {
            type(house());
            call("read");
        }
        if (run % 5 == 1) {
            wholeRows();
        }
        while (well && told.size() < CALLS) {
            int dice = random.nextInt(100);
            if (model.countPeople() < 3 && dice < 40) {
                call("one");
            } else if (dice < 1 && told.size() < CALLS - 155) {
                type(random.nextInt(3) > 0 ? house() : spoiled(house()));
                call("read");
            } else if (dice < 12) {
                call("meets");
            } else if (dice < 18) {
                call("goes");
            } else if (dice < 26) {
                call("plan");
            } else {
                Method m = calls.get(random.nextInt(calls.size()));
                boolean destroys = m.getName().equals("house") || m.getName().equals("forget") || m.getName().equals("clear")
                    || m.getName().equals("one") || m.getName().equals("step");
                if (!destroys || random.nextInt(6) == 0) {
                    call(m.getName());
                }
            }
        }
        if (well) {
            call("digest");
        }
        return well;
    }

    /** Each plan of each one of a house, minute by minute, and what carpets bring. */
    private void wholeRows() throws Exception {
        ask("waits", 1 + below(40));
        // Laid just now, so that names are still to be told on.
        for (int k = 0; k < 7; k++) {
            ask("carpet", k, below(4) == 0 ? 0 : 1);
        }
        for (int i = 0; i < model.countPeople() && told.size() < CALLS - 100; i++) {
            for (int p = 0; p <= 8; p++) {
                ask("plan", i, p, -2);
                int length = model.plan(i, p, -2);
                for (int k = 0; k <= length && told.size() < CALLS - 60; k++) {
                    ask("plan", i, p, k);
                }
            }
            for (int s = 0; s < 8; s++) {
                ask("hears", i, s);
            }
            ask("then", i, 1);
            ask("then", i, 5);
        }
    }

    private void type(String text) throws Exception {
        ask("clear");
        for (int k = 0; k < text.length(); k++) {
            ask("type", (int) text.charAt(k));
        }
    }

    private String house() {
        StringBuilder text = new StringBuilder("house");
        int[] soft = {0, 4, 0, 4, 1, 2, 3, 5};
        for (int s = 0; s < 8; s++) {
            text.append(' ').append(random.nextBoolean() ? soft[random.nextInt(8)] : random.nextInt(6));
        }
        text.append(';');
        int people = 1 + random.nextInt(6);
        // One kind for all others in some houses: burglars alone make rows with waiting in them.
        int host = random.nextInt(9);
        for (int k = 0; k < people; k++) {
            int kind = host < 6 && k > 0 ? host : random.nextInt(6);
            text.append("one").append(kind).append(' ').append(1 + random.nextInt(12)).append(';');
        }
        for (int k = 0; k < 25; k++) {
            String item = item(people);
            if (text.length() + item.length() <= 150) {
                text.append(item);
            }
        }
        return text.toString();
    }

    private String item(int people) {
        switch (random.nextInt(8)) {
            case 0: return random.nextInt(2) == 0 ? "carpet" + random.nextInt(7) + ";" : " ";
            case 1: return random.nextInt(3) == 0 ? "at " + random.nextInt(people) + " " + random.nextInt(9) + ";" : " ";
            case 2: return random.nextInt(4) == 0 ? "minutes " + (1 + random.nextInt(99)) + ";" : " ";
            default: return "knows" + (people - 1 - random.nextInt(random.nextInt(people) + 1)) + " " + random.nextInt(8) + ";";
        }
    }

    private String spoiled(String text) {
        StringBuilder s = new StringBuilder(text);
        for (int k = random.nextInt(2); k >= 0; k--) {
            int at = random.nextInt(s.length());
            String some = " ;0123456789abehkmnosuwxA\n-";
            switch (random.nextInt(4)) {
                case 0: s.deleteCharAt(at); break;
                case 1: s.insert(at, some.charAt(random.nextInt(some.length()))); break;
                case 2: s.setCharAt(at, some.charAt(random.nextInt(some.length()))); break;
                default: s.setLength(1 + at);
            }
        }
        return s.length() > 150 ? s.substring(0, 150) : s.toString();
    }

    private void call(String name) throws Exception {
        int[] a = numbers(name);
        ask(name, a);
    }

    private int person() {
        return random.nextInt(Math.max(1, model.countPeople()));
    }

    private int step() {
        int s = below(8);
        for (int k = 0; k < 3; k++) {
            int other = below(8);
            s = Integer.bitCount(model.about(other, 1)) > Integer.bitCount(model.about(s, 1)) ? other : s;
        }
        return s;
    }

    private int[] threePeople() {
        int a = person();
        int n = Math.max(3, model.countPeople());
        return below(8) == 0 ? new int[] {a, person(), person(), step()}
            : new int[] {a, (a + 1) % n, (a + n - 1) % n, step()};
    }

    private int below(int n) {
        return random.nextInt(n);
    }

    private int[] numbers(String name) {
        int[] a = rightNumbers(name);
        for (int k = 0; k < a.length; k++) {
            if (random.nextInt(wrongOnes) == 0) {
                int[] odd = {-1, -2, -3, 6, 7, 8, 9, 10, 13, 24, 60, 61, 128, Integer.MAX_VALUE, Integer.MIN_VALUE, random.nextInt()};
                a[k] = odd[random.nextInt(odd.length)];
            }
        }
        return a;
    }

    private int[] rightNumbers(String name) {
        switch (name) {
            case "one": return new int[] {below(6), 1 + below(12)};
            case "type": return new int[] {below(128)};
            case "meets": return new int[] {person(), below(8)};
            case "goes": return new int[] {person(), below(4) == 0 ? 0 : 1};
            case "waits": return new int[] {1 + below(below(3) == 0 ? 60 : 3)};
            case "carpet": return new int[] {below(7), below(2)};
            case "step": return new int[] {below(8), below(6)};
            case "of": return new int[] {person(), below(4)};
            case "about": return new int[] {below(8), below(3)};
            case "asks": return new int[] {person(), below(2) == 0 ? step() : below(8), below(3)};
            case "word": case "high": case "kinds": case "ask": return new int[] {person()};
            case "hears": return new int[] {person(), below(8)};
            case "then": return new int[] {person(), below(below(2) == 0 ? 4 : 61)};
            case "plan": return new int[] {person(), below(9), below(3) == 0 ? -2 : below(below(2) == 0 ? 6 : 41)};
            case "seen": return new int[] {person(), below(8), below(2)};
            case "may": return new int[] {person(), below(3)};
            case "note": return note();
            case "mark": return mark();
            case "forget": return new int[] {below(3)};
            case "is": case "look": return new int[] {below(8)};
            case "hosts": return threePeople();
            case "slips": return new int[] {person(), step(), below(11)};
            case "evenings": return new int[] {below(1000000), below(61)};
            case "part": case "image": case "from": return new int[] {below(2)};
            case "status": return new int[] {below(3)};
            case "count": return new int[] {below(10)};
            default: return new int[0];
        }
    }

    /** Mostly what a kind would have wanted, so that kinds are left over. */
    private int[] note() {
        int g = 1 + below(12);
        int t = below(24);
        return new int[] {below(3), g, t, below(6) == 0 ? below(10) : Model.stepWants(below(6), g, t)};
    }

    private int[] mark() {
        int p = below(10) - 1;
        int t = below(24);
        return new int[] {person(), p, t, below(6) == 0 ? below(10) : Model.wordWorth(below(6), p, t)};
    }

    private void ask(String name, int... a) throws Exception {
        if (!well) {
            return;
        }
        Class<?>[] types = new Class<?>[a.length];
        Object[] values = new Object[a.length];
        for (int k = 0; k < a.length; k++) {
            types[k] = int.class;
            values[k] = a[k];
        }
        String call = name + Arrays.toString(a);
        told.add(call);
        long got = ((Number) StairManners.class.getMethod(name, types).invoke(x, values)).longValue();
        long due = ((Number) Model.class.getMethod(name, types).invoke(model, values)).longValue();
        Due.is("run " + run + ", call " + told.size() + ": " + call, got, due);
        Due.is("run " + run + ", digest behind call " + told.size() + ": " + call, x.digest(), model.digest());
        well = got == due && x.digest() == model.digest();
        if (!well) {
            System.out.println(told);
        }
    }
}
