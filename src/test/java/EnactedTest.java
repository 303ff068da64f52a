import java.util.ArrayList;
import java.util.Arrays;
import java.util.List;
import java.util.Random;

/**
 * What is only foretold (promises 17 to 32), beside the same thing done: each answer is asked of one object, and
 * got once more from others by going, meeting, waiting, by every row, every set, every case.
 */
public final class EnactedTest {
    private static final int NONE = -1;

    public static void main(String[] args) {
        for (int seed = 0; seed < 60; seed++) {
            Told told = new Told(new Random(seed));
            highs(told);
            carpets(told);
            plans(told, seed < 8 ? 4 : 3);
            hosts(told);
            slips(told);
            evenings(told, seed);
            beyondTheLastMinute(told);
        }
        sights();
        notes();
        marks();
        Due.finish();
    }

    /** A house told by a text, which can be told again with less in it. */
    private static final class Told {
        final int[] stepKind = new int[8];
        final int people;
        final int[] kind;
        final int[] weight;
        final int[] where;
        final boolean[][] knows;
        final List<Integer> carpets = new ArrayList<>();
        final int minutes;

        Told(Random random) {
            for (int s = 0; s < 8; s++) {
                stepKind[s] = random.nextInt(3) > 0 ? 4 * random.nextInt(2) : random.nextInt(6);
            }
            people = 3 + random.nextInt(2);
            kind = new int[people];
            weight = new int[people];
            where = new int[people];
            knows = new boolean[people][8];
            for (int i = 0; i < people; i++) {
                kind[i] = random.nextInt(6);
                weight[i] = 1 + random.nextInt(12);
                where[i] = random.nextInt(2) > 0 ? NONE : random.nextInt(9);
            }
            for (int k = 0; k < 8; k++) {
                knows[random.nextInt(people)][random.nextInt(4) > 0 ? random.nextInt(4) : random.nextInt(8)] = true;
            }
            for (int k = 0; k < 7; k++) {
                if (random.nextInt(2) == 0) {
                    carpets.add(k);
                }
            }
            minutes = 1 + random.nextInt(30);
        }

        private Told(Told other, boolean[][] knows) {
            System.arraycopy(other.stepKind, 0, stepKind, 0, 8);
            people = other.people;
            kind = other.kind;
            weight = other.weight;
            where = other.where;
            this.knows = knows;
            minutes = other.minutes;
        }

        /** The same house without carpets, in which a step is known by these alone (bits). */
        Told knownBy(int step, int set) {
            boolean[][] other = new boolean[people][];
            for (int i = 0; i < people; i++) {
                other[i] = knows[i].clone();
                other[i][step] = (set >> i & 1) == 1;
            }
            return new Told(this, other);
        }

        int knowers(int step) {
            int set = 0;
            for (int i = 0; i < people; i++) {
                set |= knows[i][step] ? 1 << i : 0;
            }
            return set;
        }

        /** As it stands when its minutes have gone by, and before any carpet was laid. */
        StairManners bare() {
            StringBuilder text = new StringBuilder("house");
            for (int s : stepKind) {
                text.append(' ').append(s);
            }
            text.append(';');
            for (int i = 0; i < people; i++) {
                text.append("one").append(kind[i]).append(' ').append(weight[i]).append(';');
                if (where[i] != NONE) {
                    text.append("at").append(i).append(' ').append(where[i]).append(';');
                }
                for (int s = 0; s < 8; s++) {
                    if (knows[i][s]) {
                        text.append("knows").append(i).append(' ').append(s).append(';');
                    }
                }
            }
            StairManners x = new StairManners();
            for (int k = 0; k < text.length(); k++) {
                x.type(text.charAt(k));
            }
            Due.holds("read of " + text, x.read() > 0);
            x.waits(minutes);
            return x;
        }

        StairManners withCarpets() {
            return laid(bare());
        }

        StairManners laid(StairManners x) {
            for (int k : carpets) {
                x.carpet(k, 1);
            }
            return x;
        }
    }

    // Promise 17: as high as one comes by going up and up
    private static void highs(Told told) {
        StairManners x = told.withCarpets();
        for (int i = 0; i < told.people; i++) {
            StairManners y = told.bare();
            int place = y.of(i, 2);
            for (int k = 0; k < 9 && place != 8; k++) {
                place = y.goes(i, 1);
            }
            Due.is("17: high of " + i, x.high(i), place);
        }
    }

    // Promises 18, 19: what is known as minute by minute goes by
    private static void carpets(Told told) {
        for (int i = 0; i < told.people; i++) {
            StairManners x = told.withCarpets();
            StairManners y = told.withCarpets();
            int[] heard = new int[8];
            Arrays.fill(heard, NONE);
            for (int m = 0; m <= 60; m++) {
                int known = y.of(i, 3);
                Due.is("19: then of " + i + " behind " + m, x.then(i, m), known);
                for (int s = 0; s < 8; s++) {
                    if ((known >> s & 1) == 1 && heard[s] == NONE) {
                        heard[s] = m;
                    }
                }
                y.waits(1);
            }
            for (int s = 0; s < 8; s++) {
                Due.is("18: hears of " + i + " step " + s, x.hears(i, s), heard[s]);
            }
        }
    }

    // Promise 20: the first row of all, by trying each
    private static void plans(Told told, int longest) {
        StairManners x = told.withCarpets();
        int i = told.people - 1;
        int from = x.of(i, 2);
        for (int p = 0; p <= 8; p += 2) {
            int wanted = 0;
            for (int s = from + 1; s <= Math.min(p, 7); s++) {
                wanted |= 1 << s;
            }
            int[] row = firstRow(told, i, wanted, longest);
            String call = "20: plan of " + i + " to " + p;
            int length = x.plan(i, p, -2);
            if (row == null) {
                Due.holds(call + " is none so short: " + length, length == -6 || length > longest);
                continue;
            }
            Due.is(call, length, row.length);
            for (int k = 0; k < row.length; k++) {
                Due.is(call + ", minute " + k, x.plan(i, p, k), row[k]);
            }
            Due.is(call + ", minute " + row.length, x.plan(i, p, row.length), -5);
        }
    }

    private static int[] firstRow(Told told, int i, int wanted, int longest) {
        for (int length = 0; length <= longest; length++) {
            int rows = (int) Math.pow(9, length);
            for (int number = 0; number < rows; number++) {
                int[] row = new int[length];
                int rest = number;
                for (int k = length - 1; k >= 0; k--) {
                    row[k] = rest % 9 - 1;
                    rest /= 9;
                }
                if ((done(told, i, row) & wanted) == wanted) {
                    return row;
                }
            }
        }
        return null;
    }

    private static int done(Told told, int i, int[] row) {
        StairManners y = told.bare();
        for (int deed : row) {
            // One who knows the step is not introduced again: just a minute goes by.
            if (deed == NONE || y.meets(i, deed) == StairManners.NO) {
                y.waits(1);
            }
        }
        return y.of(i, 3);
    }

    // Promise 30: each pair, with those two alone who speak
    private static void hosts(Told told) {
        StairManners x = told.withCarpets();
        for (int s = 0; s < 8; s++) {
            for (int a = 0; a < told.people; a++) {
                for (int b = 0; b < told.people; b++) {
                    for (int c = 0; c < told.people; c++) {
                        if (a != b && a != c && b != c && told.knows[a][s] && told.knows[b][s]) {
                            Due.is("30: hosts " + a + " " + b + " " + c + " step " + s, x.hosts(a, b, c, s),
                                resting(told, new int[] {a, b, c}, s));
                        }
                    }
                }
            }
        }
    }

    private static int resting(Told told, int[] three, int s) {
        int[][] gets = new int[4][2];
        for (int pair = 0; pair < 4; pair++) {
            int set = (pair & 1) << three[0] | (pair >> 1) << three[1] | told.knowers(s) & 1 << three[2];
            StairManners y = told.knownBy(s, set).bare();
            for (int k = 0; k < 2; k++) {
                gets[pair][k] = 4 * y.asks(three[2], s, 2) - (pair >> k & 1) * (1 + y.word(three[k]));
            }
        }
        int rest = 0;
        for (int pair = 0; pair < 4; pair++) {
            if (gets[pair][0] >= gets[pair ^ 1][0] && gets[pair][1] >= gets[pair ^ 2][1]) {
                rest |= 1 << pair;
            }
        }
        return rest;
    }

    // Promise 31: ten cases for each of the others, every one counted
    private static void slips(Told told) {
        StairManners x = told.withCarpets();
        for (int i = 0; i < told.people; i++) {
            for (int s = 0; s < 4; s++) {
                int others = told.knowers(s) & ~(1 << i);
                int[] could = new int[1 << told.people];
                for (int set = 0; set < could.length; set++) {
                    could[set] = told.knownBy(s, set & others | told.knowers(s) & 1 << i).bare().asks(i, s, 2);
                }
                int o = (3 * i + 5 * s) % 11;
                long cases = (long) Math.pow(10, Integer.bitCount(others));
                long good = 0;
                for (long number = 0; number < cases; number++) {
                    good += could[speaking(others, number, o)];
                }
                Due.is("31: slips " + i + " step " + s + " by " + o, x.slips(i, s, o), 1);
                Due.is("31: above by below", x.part(0) * cases, good * x.part(1));
                for (long d = 2; d <= x.part(1); d++) {
                    Due.holds("31: lowest terms", x.part(0) % d != 0 || x.part(1) % d != 0);
                }
            }
        }
    }

    private static int speaking(int others, long number, int o) {
        int set = 0;
        long rest = number;
        for (int j = 0; j < 6; j++) {
            if ((others >> j & 1) == 1) {
                set |= rest % 10 < o ? 0 : 1 << j;
                rest /= 10;
            }
        }
        return set;
    }

    // Promise 32: the same evening gone through call by call
    private static void evenings(Told told, int seed) {
        for (int n = 0; n <= 60; n += 12) {
            StairManners x = told.withCarpets();
            StairManners y = told.withCarpets();
            long number = seed * 16661L;
            for (int k = 0; k < n; k++) {
                number = (number * 1103515245L + 12345L) % 2147483648L;
                int i = (int) (number / 65536 % 6);
                int s = (int) (number / 1048576 % 8);
                int met = y.meets(i, s);
                if (met != 0 && met != 1) {
                    y.waits(1);
                }
            }
            Due.is("32: evenings of " + seed * 16661 + " " + n, x.evenings(seed * 16661, n), y.count(2));
            Due.is("32: the minute stays", x.count(1), told.minutes);
        }
    }

    /** MINUTES go beyond 9999 in what is foretold: a day has 24, and 9999 is one of those like 15. */
    private static void beyondTheLastMinute(Told told) {
        StairManners last = told.bare();
        for (int k = 0; k < 167; k++) {
            last.waits(60);
        }
        StairManners like = told.bare();
        for (int k = told.minutes; k % 24 != 15; k++) {
            like.waits(1);
        }
        told.laid(last);
        told.laid(like);
        Due.is("9: the last minute", last.count(1), 9999);
        for (int i = 0; i < told.people; i++) {
            for (int p = 0; p <= 8; p += 4) {
                for (int k = -2; k < 5; k += k == -2 ? 2 : 1) {
                    Due.is("20: plan " + i + " " + p + " " + k + " at 9999", last.plan(i, p, k), like.plan(i, p, k));
                }
            }
            Due.is("19: then " + i + " at 9999", last.then(i, 9), like.then(i, 9));
            Due.is("18: hears " + i + " at 9999", last.hears(i, 7), like.hears(i, 7));
            Due.is("15: asks " + i + " at 9999", last.asks(i, 1, 2), like.asks(i, 1, 2));
        }
        Due.is("32: evenings at 9999", last.evenings(77, 60), like.evenings(77, 60));
    }

    // Promises 21, 22: each set, by where one who knows just that would have stopped
    private static void sights() {
        int[] stops = new int[256];
        for (int set = 0; set < 256; set++) {
            StringBuilder text = new StringBuilder("house 1 1 1 1 1 1 1 1;one 0 1;");
            for (int s = 0; s < 8; s++) {
                text.append((set >> s & 1) == 1 ? "knows 0 " + s + ";" : "");
            }
            StairManners x = Due.house(text.toString());
            for (int k = 0; k < 9; k++) {
                x.goes(0, 1);
            }
            stops[set] = x.of(0, 2) + 1;
        }
        Random random = new Random(1);
        for (int k = 0; k < 300; k++) {
            StairManners x = Due.house("house 0 0 0 0 0 0 0 0;one 0 1;one 1 1;");
            List<int[]> rows = new ArrayList<>();
            for (int n = random.nextInt(5); n > 0; n--) {
                int[] row = {random.nextInt(4) / 3, random.nextInt(8), random.nextInt(2)};
                x.seen(row[0], row[1], row[2]);
                rows.add(row);
            }
            int sets = 0;
            int all = 255;
            int some = 0;
            for (int set = 0; set < 256; set++) {
                boolean fits = true;
                for (int[] row : rows) {
                    boolean so = row[2] == 1 ? stops[set] == row[1] : stops[set] > row[1];
                    fits &= row[0] != 0 || so;
                }
                if (fits) {
                    sets++;
                    all &= set;
                    some |= set;
                }
            }
            Due.is("22: how many", x.may(0, 0), sets);
            Due.is("22: in all", x.may(0, 1), sets == 0 ? NONE : all);
            Due.is("22: in some", x.may(0, 2), some);
        }
    }

    // Promises 23, 26, 27: kinds by what steps of each kind do want
    private static void notes() {
        int[][][] wants = new int[6][13][24];
        for (int kind = 0; kind < 6; kind++) {
            for (int g = 1; g <= 12; g++) {
                StairManners x = new StairManners();
                x.one(0, g);
                x.step(3, kind);
                for (int t = 0; t < 24; t++) {
                    wants[kind][g][t] = x.asks(0, 3, 0);
                    x.waits(1);
                }
            }
        }
        Random random = new Random(2);
        for (int k = 0; k < 300; k++) {
            StairManners x = new StairManners();
            int set = 63;
            for (int n = random.nextInt(4); n > 0; n--) {
                int g = 1 + random.nextInt(12);
                int t = random.nextInt(24);
                int worth = wants[random.nextInt(6)][g][t];
                x.note(3, g, t, worth);
                x.note(4, g, t, 9);
                for (int kind = 0; kind < 6; kind++) {
                    set &= wants[kind][g][t] == worth ? 63 : ~(1 << kind);
                }
            }
            int fewest = 7;
            int best = NONE;
            for (int question = 0; question < 200 && set != 0; question++) {
                int g = question % 100;
                int most = g < 1 || g > 12 ? 7 : mostAlike(set, column(wants, g, question / 100));
                best = most < fewest ? question : best;
                fewest = Math.min(most, fewest);
            }
            Due.is("26: is", x.is(3), set);
            Due.is("27: look", x.look(3), best);
        }
    }

    // Promises 24, 28, 29: kinds by what words of each kind are worth
    private static void marks() {
        int[][][] worths = new int[6][10][24];
        for (int kind = 0; kind < 6; kind++) {
            for (int p = NONE; p <= 8; p++) {
                String at = p == NONE ? "" : "at 0 " + p + ";";
                StairManners x = Due.house("house 0 0 0 0 0 0 0 0;one " + kind + " 1;" + at);
                for (int t = 0; t < 24; t++) {
                    worths[kind][p + 1][t] = x.word(0);
                    x.waits(1);
                }
            }
        }
        Random random = new Random(3);
        for (int k = 0; k < 300; k++) {
            StairManners x = new StairManners();
            x.one(0, 1);
            x.one(0, 1);
            int set = 63;
            for (int n = random.nextInt(4); n > 0; n--) {
                int p = random.nextInt(10);
                int t = random.nextInt(24);
                int worth = worths[random.nextInt(6)][p][t];
                x.mark(1, p - 1, t, worth);
                x.mark(0, p - 1, t, 9);
                for (int kind = 0; kind < 6; kind++) {
                    set &= worths[kind][p][t] == worth ? 63 : ~(1 << kind);
                }
            }
            int fewest = 7;
            int best = NONE;
            for (int question = 0; question < 240 && set != 0; question++) {
                int most = mostAlike(set, column(worths, question % 10, question / 10));
                best = most < fewest ? question : best;
                fewest = Math.min(most, fewest);
            }
            Due.is("28: kinds", x.kinds(1), set);
            Due.is("29: ask", x.ask(1), best);
        }
    }

    private static int[] column(int[][][] table, int x, int t) {
        int[] answers = new int[6];
        for (int kind = 0; kind < 6; kind++) {
            answers[kind] = table[kind][x][t];
        }
        return answers;
    }

    private static int mostAlike(int set, int[] answers) {
        int[] times = new int[10];
        int most = 0;
        for (int kind = 0; kind < 6; kind++) {
            if ((set >> kind & 1) == 1) {
                times[answers[kind]]++;
                most = Math.max(most, times[answers[kind]]);
            }
        }
        return most;
    }
}
