import java.math.BigInteger;
import java.util.ArrayDeque;
import java.util.ArrayList;
import java.util.Arrays;
import java.util.Deque;
import java.util.HashMap;
import java.util.HashSet;
import java.util.List;
import java.util.Map;
import java.util.Set;
import java.util.TreeSet;
import java.util.regex.Matcher;
import java.util.regex.Pattern;

/**
 * The document written a second time, as plainly as may be and by other means than the class:
 * sets and copies, tries of everything. RandomRunsTest asks both the same.
 */
final class Model {
    private static final class Person {
        int kind;
        int weight;
        int where = -1;
        TreeSet<Integer> knows = new TreeSet<>();

        Person copy() {
            Person p = new Person();
            p.kind = kind;
            p.weight = weight;
            p.where = where;
            p.knows = new TreeSet<>(knows);
            return p;
        }
    }

    private static final class World {
        List<Person> people = new ArrayList<>();
        int[] kinds = new int[8];
        TreeSet<Integer> carpets = new TreeSet<>();
        int minute = 0;
        List<int[]> seen = new ArrayList<>();
        List<int[]> notes = new ArrayList<>();
        List<int[]> marks = new ArrayList<>();
        Deque<World> past = new ArrayDeque<>();

        World copy() {
            World w = new World();
            for (Person p : people) {
                w.people.add(p.copy());
            }
            w.kinds = kinds.clone();
            w.carpets = new TreeSet<>(carpets);
            w.minute = minute;
            w.seen = new ArrayList<>(seen);
            w.notes = new ArrayList<>(notes);
            w.marks = new ArrayList<>(marks);
            w.past = past == null ? null : new ArrayDeque<>(past);
            return w;
        }

        void minute() {
            List<int[]> told = new ArrayList<>();
            for (int k : carpets) {
                if (kinds[k + 1] == 0 || kinds[k + 1] == 4) {
                    for (int i = 0; i < people.size(); i++) {
                        if (people.get(i).knows.contains(k)) {
                            told.add(new int[] {i, k + 1});
                        }
                    }
                }
            }
            for (int[] t : told) {
                people.get(t[0]).knows.add(t[1]);
            }
            minute++;
        }

        int wants(int i, int s, int t) {
            return stepWants(kinds[s], people.get(i).weight, t % 24);
        }

        int worth(int i, int t) {
            return wordWorth(people.get(i).kind, people.get(i).where, t % 24);
        }

        int wordFor(int i, int s, int t) {
            int sum = 0;
            for (int j = 0; j < people.size(); j++) {
                if (j != i && people.get(j).knows.contains(s)) {
                    sum += worth(j, t);
                }
            }
            return sum;
        }

        int all() {
            int sum = 0;
            for (Person p : people) {
                sum += p.knows.size();
            }
            return sum;
        }
    }

    private World now = new World();
    private final World[] images = new World[2];
    private final StringBuilder text = new StringBuilder();
    private BigInteger above = BigInteger.ZERO;
    private BigInteger below = BigInteger.ONE;
    private final int[] refused = new int[3];

    static int stepWants(int kind, int g, int t) {
        if (kind == 0) {
            return 1;
        }
        if (kind == 1) {
            return stepWants(0, g, t) + 1;
        }
        if (kind == 2) {
            return stepWants(0, g, t) + g / 4;
        }
        if (kind == 3) {
            return stepWants(1, g, t) + (t % 2 != 0 ? 2 : 0);
        }
        if (kind == 4) {
            return g <= 5 ? 0 : stepWants(0, g, t);
        }
        int twice = 2 * stepWants(2, g, t);
        return twice > 5 ? 5 : twice;
    }

    static int wordWorth(int kind, int p, int t) {
        if (kind == 0) {
            return 1;
        }
        if (kind == 1) {
            return wordWorth(0, p, t) + 1;
        }
        if (kind == 2) {
            return t >= 18 ? 0 : wordWorth(0, p, t);
        }
        if (kind == 3) {
            return wordWorth(1, p, t) - (p == -1 ? 1 : 0);
        }
        if (kind == 4) {
            return t % 2 == 1 ? wordWorth(0, p, t) : 0;
        }
        return wordWorth(1, p, t) * (t >= 18 ? 2 : 1);
    }

    private int bad() {
        refused[0]++;
        return -2;
    }

    private int badPlace() {
        refused[0]++;
        return -10;
    }

    private int no() {
        refused[1]++;
        return -3;
    }

    private int full() {
        refused[2]++;
        return -4;
    }

    private boolean there(int i) {
        return i >= 0 && i < now.people.size();
    }

    private static boolean in(int x, int low, int high) {
        return x >= low && x <= high;
    }

    private void keepPast() {
        World w = now.copy();
        // An earlier world has no past of its own: it is only gone back to.
        w.past = null;
        now.past.addLast(w);
        if (now.past.size() > 8) {
            now.past.removeFirst();
        }
    }

    private static int bits(Iterable<Integer> set) {
        int bits = 0;
        for (int k : set) {
            bits |= 1 << k;
        }
        return bits;
    }

    int countPeople() {
        return now.people.size();
    }

    public int house() {
        int n = now.people.size();
        now = new World();
        return n;
    }

    private static void come(World w, int kind, int weight) {
        Person p = new Person();
        p.kind = kind;
        p.weight = weight;
        w.people.add(p);
    }

    public int one(int kind, int weight) {
        if (!in(kind, 0, 5) || !in(weight, 1, 12)) {
            return bad();
        }
        if (now.people.size() == 6) {
            return full();
        }
        come(now, kind, weight);
        now.past.clear();
        return now.people.size() - 1;
    }

    public int type(int c) {
        if (!in(c, 0, 127)) {
            return bad();
        }
        if (text.length() == 150) {
            return full();
        }
        text.append((char) c);
        return text.length();
    }

    public int clear() {
        int n = text.length();
        text.setLength(0);
        return n;
    }

    /** The tokens with their places first, then items by shape: n is a number, with its range asked apart. */
    public int read() {
        List<String> tokens = new ArrayList<>();
        List<Integer> places = new ArrayList<>();
        Matcher m = Pattern.compile("[a-z]+|[0-9]+|;|[^ ]", Pattern.DOTALL).matcher(text);
        while (m.find()) {
            tokens.add(m.group());
            places.add(m.start());
        }
        places.add(text.length());
        World w = new World();
        int at = 0;
        int items = 0;
        while (at < tokens.size()) {
            String word = tokens.get(at);
            List<String> words = Arrays.asList("house", "one", "knows", "carpet", "at", "minutes");
            if (!words.contains(word) || word.equals("house") != (items == 0) || word.equals("one") && w.people.size() == 6) {
                return -10 - places.get(at);
            }
            int[][] ranges = ranges(word, w.people.size() - 1);
            int[] given = new int[ranges.length];
            for (int k = 0; k < ranges.length; k++) {
                at++;
                if (at == tokens.size() || !tokens.get(at).matches("[0-9]{1,2}")) {
                    return -10 - places.get(at);
                }
                given[k] = Integer.parseInt(tokens.get(at));
                if (!in(given[k], ranges[k][0], ranges[k][1])) {
                    return -10 - places.get(at);
                }
            }
            at++;
            if (at == tokens.size() || !tokens.get(at).equals(";")) {
                return -10 - places.get(at);
            }
            settle(w, word, given);
            at++;
            items++;
        }
        if (items == 0) {
            return -10 - text.length();
        }
        now = w;
        return items;
    }

    private static int[][] ranges(String word, int lastPerson) {
        switch (word) {
            case "house": {
                int[][] eight = new int[8][];
                Arrays.fill(eight, new int[] {0, 5});
                return eight;
            }
            case "one": return new int[][] {{0, 5}, {1, 12}};
            case "knows": return new int[][] {{0, lastPerson}, {0, 7}};
            case "carpet": return new int[][] {{0, 6}};
            case "at": return new int[][] {{0, lastPerson}, {0, 8}};
            default: return new int[][] {{1, 99}};
        }
    }

    private static void settle(World w, String word, int[] given) {
        if (word.equals("house")) {
            w.kinds = given.clone();
        } else if (word.equals("one")) {
            come(w, given[0], given[1]);
        } else if (word.equals("knows")) {
            w.people.get(given[0]).knows.add(given[1]);
        } else if (word.equals("carpet")) {
            w.carpets.add(given[0]);
        } else if (word.equals("at")) {
            w.people.get(given[0]).where = given[1];
        } else {
            for (int k = 0; k < given[0]; k++) {
                w.minute();
            }
        }
    }

    public int meets(int i, int s) {
        if (!there(i) || !in(s, 0, 7)) {
            return bad();
        }
        Person p = now.people.get(i);
        if (p.knows.contains(s) || now.minute == 9999) {
            return no();
        }
        keepPast();
        if (now.wordFor(i, s, now.minute) >= now.wants(i, s, now.minute)) {
            p.knows.add(s);
        }
        now.minute();
        return p.knows.contains(s) ? 1 : 0;
    }

    public int goes(int i, int up) {
        if (!there(i) || !in(up, 0, 1)) {
            return badPlace();
        }
        Person p = now.people.get(i);
        if (up == 1 && p.where == 8 || up == 0 && p.where == -1 || now.minute == 9999) {
            return no();
        }
        keepPast();
        if (up == 0) {
            p.where--;
        } else if (p.where == 7 || p.knows.contains(p.where + 1)) {
            p.where++;
        }
        now.minute();
        return p.where;
    }

    public int waits(int n) {
        if (!in(n, 1, 60)) {
            return bad();
        }
        keepPast();
        for (int k = 0; k < n; k++) {
            if (now.minute < 9999) {
                now.minute();
            }
        }
        return now.all();
    }

    public int carpet(int k, int is) {
        if (!in(k, 0, 6) || !in(is, 0, 1)) {
            return bad();
        }
        int was = now.carpets.contains(k) ? 1 : 0;
        if (was == is) {
            return no();
        }
        keepPast();
        if (is == 1) {
            now.carpets.add(k);
        } else {
            now.carpets.remove(k);
        }
        return was;
    }

    public int step(int s, int kind) {
        if (!in(s, 0, 7) || !in(kind, 0, 5)) {
            return bad();
        }
        keepPast();
        now.kinds[s] = kind;
        int n = 0;
        for (Person p : now.people) {
            if (p.knows.remove(s)) {
                n++;
            }
        }
        return n;
    }

    public int undo() {
        if (now.past.isEmpty()) {
            return no();
        }
        World back = now.past.removeLast();
        for (int i = 0; i < now.people.size(); i++) {
            now.people.get(i).where = back.people.get(i).where;
            now.people.get(i).knows = new TreeSet<>(back.people.get(i).knows);
        }
        now.kinds = back.kinds.clone();
        now.carpets = new TreeSet<>(back.carpets);
        now.minute = back.minute;
        return now.minute;
    }

    public int of(int i, int what) {
        if (!there(i) || !in(what, 0, 3)) {
            return badPlace();
        }
        Person p = now.people.get(i);
        return new int[] {p.kind, p.weight, p.where, bits(p.knows)}[what];
    }

    public int about(int s, int what) {
        if (!in(s, 0, 7) || !in(what, 0, 2)) {
            return bad();
        }
        Set<Integer> who = new TreeSet<>();
        for (int i = 0; i < now.people.size(); i++) {
            if (now.people.get(i).knows.contains(s)) {
                who.add(i);
            }
        }
        return new int[] {now.kinds[s], bits(who), now.carpets.contains(s) ? 1 : 0}[what];
    }

    public int asks(int i, int s, int what) {
        if (!there(i) || !in(s, 0, 7) || !in(what, 0, 2)) {
            return bad();
        }
        int wants = now.wants(i, s, now.minute);
        int word = now.wordFor(i, s, now.minute);
        boolean could = now.people.get(i).knows.contains(s) || word >= wants;
        return new int[] {wants, word, could ? 1 : 0}[what];
    }

    public int word(int i) {
        return there(i) ? now.worth(i, now.minute) : bad();
    }

    public int high(int i) {
        if (!there(i)) {
            return badPlace();
        }
        Person p = now.people.get(i);
        int best = p.where;
        for (int place = p.where + 1; place <= 8; place++) {
            boolean all = true;
            for (int s = p.where + 1; s <= Math.min(place, 7); s++) {
                all &= p.knows.contains(s);
            }
            best = all ? place : best;
        }
        return best;
    }

    public int hears(int i, int s) {
        if (!there(i) || !in(s, 0, 7)) {
            return bad();
        }
        World w = now.copy();
        for (int m = 0; m <= 60; m++) {
            if (w.people.get(i).knows.contains(s)) {
                return m;
            }
            w.minute();
        }
        return -1;
    }

    public int then(int i, int m) {
        if (!there(i) || !in(m, 0, 60)) {
            return bad();
        }
        World w = now.copy();
        for (int k = 0; k < m; k++) {
            w.minute();
        }
        return bits(w.people.get(i).knows);
    }

    public int plan(int i, int p, int k) {
        if (!there(i) || !in(p, 0, 8) || k == -1 || k < -2) {
            return badPlace();
        }
        Set<Integer> lacking = new TreeSet<>();
        Person one = now.people.get(i);
        for (int s = one.where + 1; s <= Math.min(p, 7); s++) {
            if (!one.knows.contains(s)) {
                lacking.add(s);
            }
        }
        for (int length = 0; length <= 40; length++) {
            if (canMatch(i, lacking, 0, length)) {
                return k == -2 ? length : k >= length ? -5 : row(i, lacking, length).get(k);
            }
        }
        return -6;
    }

    private boolean speaksFor(int i, int s, int d) {
        int t = now.minute + d;
        return now.wordFor(i, s, t) >= now.wants(i, s, t);
    }

    /** The row place by place: waiting, if the rest can be matched to the minutes left, else the first step with which it can. */
    private List<Integer> row(int i, Set<Integer> lacking, int length) {
        Set<Integer> rest = new TreeSet<>(lacking);
        List<Integer> row = new ArrayList<>();
        for (int d = 0; d < length; d++) {
            int deed = -1;
            if (!canMatch(i, rest, d + 1, length)) {
                for (int s : new ArrayList<>(rest)) {
                    Set<Integer> without = new TreeSet<>(rest);
                    without.remove(s);
                    if (deed == -1 && speaksFor(i, s, d) && canMatch(i, without, d + 1, length)) {
                        deed = s;
                    }
                }
                rest.remove(deed);
            }
            row.add(deed);
        }
        return row;
    }

    /** Augmenting paths from steps to minutes of their own. */
    private boolean canMatch(int i, Set<Integer> steps, int first, int end) {
        Map<Integer, Integer> stepOf = new HashMap<>();
        for (int s : steps) {
            if (!augment(i, s, first, end, stepOf, new HashSet<>())) {
                return false;
            }
        }
        return true;
    }

    private boolean augment(int i, int s, int first, int end, Map<Integer, Integer> stepOf, Set<Integer> tried) {
        for (int d = first; d < end; d++) {
            if (speaksFor(i, s, d) && tried.add(d)) {
                if (!stepOf.containsKey(d) || augment(i, stepOf.get(d), first, end, stepOf, tried)) {
                    stepOf.put(d, s);
                    return true;
                }
            }
        }
        return false;
    }

    private int put(List<int[]> rows, int... row) {
        if (rows.size() == 6) {
            return full();
        }
        rows.add(row);
        return rows.size();
    }

    public int seen(int i, int s, int stopped) {
        if (!there(i) || !in(s, 0, 7) || !in(stopped, 0, 1)) {
            return bad();
        }
        return put(now.seen, i, s, stopped);
    }

    public int may(int i, int what) {
        if (!there(i) || !in(what, 0, 2)) {
            return bad();
        }
        List<Integer> sets = new ArrayList<>();
        for (int set = 0; set < 256; set++) {
            boolean all = true;
            for (int[] row : now.seen) {
                if (row[0] == i) {
                    for (int s = 0; s < row[1]; s++) {
                        all &= (set & 1 << s) != 0;
                    }
                    all &= (set & 1 << row[1]) != 0 == (row[2] == 0);
                }
            }
            if (all) {
                sets.add(set);
            }
        }
        if (what == 0) {
            return sets.size();
        }
        int inAll = 255;
        int inSome = 0;
        for (int set : sets) {
            inAll &= set;
            inSome |= set;
        }
        return what == 2 ? inSome : sets.isEmpty() ? -1 : inAll;
    }

    public int note(int s, int g, int t, int x) {
        if (!in(s, 0, 7) || !in(g, 1, 12) || !in(t, 0, 23) || !in(x, 0, 9)) {
            return bad();
        }
        return put(now.notes, s, g, t, x);
    }

    public int mark(int i, int p, int t, int x) {
        if (!there(i) || !in(p, -1, 8) || !in(t, 0, 23) || !in(x, 0, 9)) {
            return bad();
        }
        return put(now.marks, i, p, t, x);
    }

    public int forget(int what) {
        if (!in(what, 0, 2)) {
            return bad();
        }
        List<int[]> rows = what == 0 ? now.seen : what == 1 ? now.notes : now.marks;
        int n = rows.size();
        rows.clear();
        return n;
    }

    private Set<Integer> stepKinds(int s) {
        Set<Integer> set = new TreeSet<>(Arrays.asList(0, 1, 2, 3, 4, 5));
        for (int[] row : now.notes) {
            if (row[0] == s) {
                set.removeIf(kind -> stepWants(kind, row[1], row[2]) != row[3]);
            }
        }
        return set;
    }

    private Set<Integer> personKinds(int i) {
        Set<Integer> set = new TreeSet<>(Arrays.asList(0, 1, 2, 3, 4, 5));
        for (int[] row : now.marks) {
            if (row[0] == i) {
                set.removeIf(kind -> wordWorth(kind, row[1], row[2]) != row[3]);
            }
        }
        return set;
    }

    private static int most(List<Integer> answers) {
        Map<Integer, Integer> times = new HashMap<>();
        int most = 0;
        for (int answer : answers) {
            most = Math.max(most, times.merge(answer, 1, Integer::sum));
        }
        return most;
    }

    public int is(int s) {
        return in(s, 0, 7) ? bits(stepKinds(s)) : bad();
    }

    public int look(int s) {
        if (!in(s, 0, 7)) {
            return bad();
        }
        TreeSet<Integer> ranked = new TreeSet<>();
        for (int t = 0; t <= 1; t++) {
            for (int g = 1; g <= 12; g++) {
                List<Integer> answers = new ArrayList<>();
                for (int kind : stepKinds(s)) {
                    answers.add(stepWants(kind, g, t));
                }
                ranked.add(most(answers) * 1000 + 100 * t + g);
            }
        }
        return stepKinds(s).isEmpty() ? -1 : ranked.first() % 1000;
    }

    public int kinds(int i) {
        return there(i) ? bits(personKinds(i)) : bad();
    }

    public int ask(int i) {
        if (!there(i)) {
            return bad();
        }
        TreeSet<Integer> ranked = new TreeSet<>();
        for (int t = 0; t <= 23; t++) {
            for (int p = -1; p <= 8; p++) {
                List<Integer> answers = new ArrayList<>();
                for (int kind : personKinds(i)) {
                    answers.add(wordWorth(kind, p, t));
                }
                ranked.add(most(answers) * 1000 + 10 * t + 1 + p);
            }
        }
        return personKinds(i).isEmpty() ? -1 : ranked.first() % 1000;
    }

    public int hosts(int a, int b, int c, int s) {
        if (!there(a) || !there(b) || !there(c) || !in(s, 0, 7) || a == b || b == c || a == c) {
            return bad();
        }
        if (!now.people.get(a).knows.contains(s) || !now.people.get(b).knows.contains(s)) {
            return no();
        }
        int[] own = {now.worth(a, now.minute), now.worth(b, now.minute)};
        boolean known = now.people.get(c).knows.contains(s);
        int wants = now.wants(c, s, now.minute);
        int[][] forA = new int[2][2];
        int[][] forB = new int[2][2];
        for (int x = 0; x < 2; x++) {
            for (int y = 0; y < 2; y++) {
                int brings = known || x * own[0] + y * own[1] >= wants ? 4 : 0;
                forA[x][y] = brings - x * (1 + own[0]);
                forB[x][y] = brings - y * (1 + own[1]);
            }
        }
        int rest = 0;
        for (int x = 0; x < 2; x++) {
            for (int y = 0; y < 2; y++) {
                if (forA[1 - x][y] <= forA[x][y] && forB[x][1 - y] <= forB[x][y]) {
                    rest |= 1 << (x + 2 * y);
                }
            }
        }
        return rest;
    }

    public int slips(int i, int s, int o) {
        if (!there(i) || !in(s, 0, 7) || !in(o, 0, 10)) {
            return bad();
        }
        List<Integer> words = new ArrayList<>();
        for (int j = 0; j < now.people.size(); j++) {
            if (j != i && now.people.get(j).knows.contains(s)) {
                words.add(now.worth(j, now.minute));
            }
        }
        int wants = now.people.get(i).knows.contains(s) ? 0 : now.wants(i, s, now.minute);
        BigInteger good = good(words, wants, o);
        BigInteger all = BigInteger.TEN.pow(words.size());
        BigInteger divisor = good.gcd(all);
        above = good.divide(divisor);
        below = all.divide(divisor);
        return 1;
    }

    private static BigInteger good(List<Integer> words, int wants, int o) {
        if (words.isEmpty()) {
            return wants <= 0 ? BigInteger.ONE : BigInteger.ZERO;
        }
        List<Integer> rest = words.subList(1, words.size());
        BigInteger silent = good(rest, wants, o).multiply(BigInteger.valueOf(o));
        BigInteger speaks = good(rest, wants - words.get(0), o).multiply(BigInteger.valueOf(10 - o));
        return silent.add(speaks);
    }

    public int evenings(int seed, int n) {
        if (!in(seed, 0, 999999) || !in(n, 0, 60)) {
            return bad();
        }
        World w = now.copy();
        BigInteger x = BigInteger.valueOf(seed);
        for (int k = 0; k < n; k++) {
            x = x.multiply(BigInteger.valueOf(1103515245)).add(BigInteger.valueOf(12345)).mod(BigInteger.valueOf(2147483648L));
            int i = x.divide(BigInteger.valueOf(65536)).mod(BigInteger.valueOf(6)).intValue();
            int s = x.divide(BigInteger.valueOf(1048576)).mod(BigInteger.valueOf(8)).intValue();
            if (i < w.people.size() && w.wordFor(i, s, w.minute) >= w.wants(i, s, w.minute)) {
                w.people.get(i).knows.add(s);
            }
            w.minute();
        }
        return w.all();
    }

    public long part(int what) {
        if (!in(what, 0, 1)) {
            return bad();
        }
        return what == 0 ? above.longValue() : below.longValue();
    }

    public int image(int i) {
        if (!in(i, 0, 1)) {
            return bad();
        }
        images[i] = now.copy();
        return 1;
    }

    public int from(int i) {
        if (!in(i, 0, 1)) {
            return bad();
        }
        if (images[i] == null) {
            return no();
        }
        now = images[i].copy();
        return 1;
    }

    public int status(int what) {
        if (!in(what, 0, 2)) {
            bad();
            return -1;
        }
        return refused[what];
    }

    public int count(int what) {
        if (!in(what, 0, 9)) {
            return bad();
        }
        int top = 0;
        for (Person p : now.people) {
            top += p.where == 8 ? 1 : 0;
        }
        return new int[] {now.people.size(), now.minute, now.all(), now.carpets.size(), top,
            now.seen.size(), now.notes.size(), now.marks.size(), now.past.size(), text.length()}[what];
    }

    public long digest() {
        List<Long> values = new ArrayList<>();
        for (int what = 0; what <= 9; what++) {
            values.add((long) count(what));
        }
        for (int kind : now.kinds) {
            values.add((long) kind);
        }
        values.add((long) bits(now.carpets));
        for (Person p : now.people) {
            values.addAll(List.of((long) p.kind, (long) p.weight, (long) p.where, (long) bits(p.knows)));
        }
        for (List<int[]> rows : List.of(now.seen, now.notes, now.marks)) {
            for (int[] row : rows) {
                for (int cell : row) {
                    values.add((long) cell);
                }
            }
        }
        values.add(above.longValue());
        values.add(below.longValue());
        BigInteger h = BigInteger.valueOf(1571);
        for (long v : values) {
            h = h.multiply(BigInteger.valueOf(31)).add(BigInteger.valueOf(v));
        }
        return h.longValue();
    }
}
