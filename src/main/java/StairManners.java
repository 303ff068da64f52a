/**
 * A stair whose steps bear only those who have been introduced to them.
 * All rows are made with the object and used again: no call makes anything.
 */
public final class StairManners {
    public static final int NONE = -1, BAD = -2, NO = -3, FULL = -4;

    private static final int STEPS = 8, LAST_STEP = 7, TOP = 8, CARPETS = 7, STEP_SETS = 256;
    private static final int PEOPLE = 6, KINDS = 6, HEAVIEST = 12;
    private static final int LAST_MINUTE = 9999, DAY = 24, LONGEST_WAIT = 60;
    private static final int ROWS = 6, MOST_WORTH = 9, IMAGES = 2, TENTHS = 10;
    private static final int TEXT_BYTES = 150, LAST_BYTE = 127, LAST_SEED = 999999;
    private static final int BAD_PLACE = -10, NOT_SO_MANY = -5, NO_PLAN = -6, HOW_MANY = -2;

    private final House now;
    private final House draft;
    private final House[] images;
    private final boolean[] kept;
    private final Text text;
    private final Plan route;
    private long above;
    private long below;
    private int bads;
    private int nos;
    private int fulls;

    public StairManners() {
        now = new House();
        draft = new House();
        images = new House[IMAGES];
        for (int k = 0; k < IMAGES; k++) {
            images[k] = new House();
        }
        kept = new boolean[IMAGES];
        text = new Text();
        route = new Plan();
        above = 0;
        below = 1;
        bads = 0;
        nos = 0;
        fulls = 0;
    }

    // ---- a house

    public int house() {
        int before = now.people;
        now.empty();
        return before;
    }

    public int one(int kind, int weight) {
        if (!within(kind, 0, KINDS - 1) || !within(weight, 1, HEAVIEST)) {
            return refuse(BAD);
        }
        if (now.people >= PEOPLE) {
            return refuse(FULL);
        }
        now.welcome(kind, weight);
        return now.people - 1;
    }

    public int type(int c) {
        if (!within(c, 0, LAST_BYTE)) {
            return refuse(BAD);
        }
        if (text.size >= TEXT_BYTES) {
            return refuse(FULL);
        }
        text.append(c);
        return text.size;
    }

    public int clear() {
        int before = text.size;
        text.size = 0;
        return before;
    }

    public int read() {
        int items = text.readInto(draft);
        if (items > 0) {
            now.copyFrom(draft);
        }
        return items;
    }

    // ---- minutes

    public int meets(int i, int s) {
        if (!now.hasPerson(i) || !isStep(s)) {
            return refuse(BAD);
        }
        if (now.stand.isKnown(i, s) || now.stand.minute >= LAST_MINUTE) {
            return refuse(NO);
        }
        now.remember();
        now.introduce(i, s);
        return now.stand.isKnown(i, s) ? 1 : 0;
    }

    public int goes(int i, int up) {
        if (!now.hasPerson(i) || !within(up, 0, 1)) {
            return refusePlace();
        }
        int end = up == 1 ? TOP : NONE;
        if (now.stand.where[i] == end || now.stand.minute >= LAST_MINUTE) {
            return refuse(NO);
        }
        now.remember();
        now.stand.walk(i, up);
        now.stand.passMinute();
        return now.stand.where[i];
    }

    public int waits(int n) {
        if (!within(n, 1, LONGEST_WAIT)) {
            return refuse(BAD);
        }
        now.remember();
        now.stand.passMinutes(n);
        return now.stand.knownTogether();
    }

    public int carpet(int k, int is) {
        if (!within(k, 0, CARPETS - 1) || !within(is, 0, 1)) {
            return refuse(BAD);
        }
        int before = now.stand.carpets >> k & 1;
        if (before == is) {
            return refuse(NO);
        }
        now.remember();
        now.stand.carpets ^= 1 << k;
        return before;
    }

    public int step(int s, int kind) {
        if (!isStep(s) || !within(kind, 0, KINDS - 1)) {
            return refuse(BAD);
        }
        int knew = Integer.bitCount(now.stand.knowers(s));
        now.remember();
        now.stand.putIn(s, kind);
        return knew;
    }

    public int undo() {
        if (now.pastCount == 0) {
            return refuse(NO);
        }
        now.goBack();
        return now.stand.minute;
    }

    public int of(int i, int what) {
        if (!now.hasPerson(i)) {
            return refusePlace();
        }
        switch (what) {
            case 0: return now.kind[i];
            case 1: return now.weight[i];
            case 2: return now.stand.where[i];
            case 3: return now.stand.knows[i];
            default: return refusePlace();
        }
    }

    public int about(int s, int what) {
        if (!isStep(s)) {
            return refuse(BAD);
        }
        switch (what) {
            case 0: return now.stand.stepKind[s];
            case 1: return now.stand.knowers(s);
            case 2: return now.stand.carpets >> s & 1;
            default: return refuse(BAD);
        }
    }

    // ---- who may go up

    public int asks(int i, int s, int what) {
        if (!now.hasPerson(i) || !isStep(s)) {
            return refuse(BAD);
        }
        int minute = now.stand.minute;
        int others = now.othersWhoKnow(i, s);
        switch (what) {
            case 0: return now.wanted(i, s, minute);
            case 1: return now.wordOf(others, minute);
            case 2: return now.couldMeet(i, s, others, minute) ? 1 : 0;
            default: return refuse(BAD);
        }
    }

    public int word(int i) {
        if (!now.hasPerson(i)) {
            return refuse(BAD);
        }
        return now.worth(i, now.stand.minute);
    }

    public int high(int i) {
        if (!now.hasPerson(i)) {
            return refusePlace();
        }
        return now.stand.highest(i);
    }

    public int hears(int i, int s) {
        if (!now.hasPerson(i) || !isStep(s)) {
            return refuse(BAD);
        }
        int known = now.stand.knows[i];
        for (int m = 0; m <= LONGEST_WAIT; m++) {
            if ((known >> s & 1) == 1) {
                return m;
            }
            known = now.stand.toldOn(known);
        }
        return NONE;
    }

    public int then(int i, int m) {
        if (!now.hasPerson(i) || !within(m, 0, LONGEST_WAIT)) {
            return refuse(BAD);
        }
        int known = now.stand.knows[i];
        for (int k = 0; k < m; k++) {
            known = now.stand.toldOn(known);
        }
        return known;
    }

    public int plan(int i, int p, int k) {
        if (!now.hasPerson(i) || !within(p, 0, TOP) || k < HOW_MANY || k == -1) {
            return refusePlace();
        }
        int length = route.make(now, i, p);
        if (length == NONE) {
            return NO_PLAN;
        }
        if (k == HOW_MANY) {
            return length;
        }
        return k < length ? route.deed(k) : NOT_SO_MANY;
    }

    // ---- what one may know

    public int seen(int i, int s, int stopped) {
        if (!now.hasPerson(i) || !isStep(s) || !within(stopped, 0, 1)) {
            return refuse(BAD);
        }
        return add(now.sights, i, s, stopped, 0);
    }

    public int may(int i, int what) {
        if (!now.hasPerson(i) || !within(what, 0, 2)) {
            return refuse(BAD);
        }
        int sets = 0;
        int inAll = STEP_SETS - 1;
        int inSome = 0;
        for (int set = 0; set < STEP_SETS; set++) {
            if (now.fitsSights(i, set)) {
                sets++;
                inAll &= set;
                inSome |= set;
            }
        }
        switch (what) {
            case 0: return sets;
            case 1: return sets == 0 ? NONE : inAll;
            default: return inSome;
        }
    }

    public int note(int s, int g, int t, int x) {
        if (!isStep(s) || !within(g, 1, HEAVIEST) || !within(t, 0, DAY - 1) || !within(x, 0, MOST_WORTH)) {
            return refuse(BAD);
        }
        return add(now.notes, s, g, t, x);
    }

    public int mark(int i, int p, int t, int x) {
        if (!now.hasPerson(i) || !within(p, NONE, TOP) || !within(t, 0, DAY - 1) || !within(x, 0, MOST_WORTH)) {
            return refuse(BAD);
        }
        return add(now.marks, i, p, t, x);
    }

    public int forget(int what) {
        switch (what) {
            case 0: return now.sights.drop();
            case 1: return now.notes.drop();
            case 2: return now.marks.drop();
            default: return refuse(BAD);
        }
    }

    public int is(int s) {
        if (!isStep(s)) {
            return refuse(BAD);
        }
        return now.stepKinds.fitting(now.notes, s);
    }

    public int look(int s) {
        if (!isStep(s)) {
            return refuse(BAD);
        }
        return now.stepKinds.nextQuestion(now.notes, s);
    }

    public int kinds(int i) {
        if (!now.hasPerson(i)) {
            return refuse(BAD);
        }
        return now.personKinds.fitting(now.marks, i);
    }

    public int ask(int i) {
        if (!now.hasPerson(i)) {
            return refuse(BAD);
        }
        return now.personKinds.nextQuestion(now.marks, i);
    }

    public int hosts(int a, int b, int c, int s) {
        if (!now.hasPerson(a) || !now.hasPerson(b) || !now.hasPerson(c) || !isStep(s)) {
            return refuse(BAD);
        }
        if (a == b || a == c || b == c) {
            return refuse(BAD);
        }
        if (!now.stand.isKnown(a, s) || !now.stand.isKnown(b, s)) {
            return refuse(NO);
        }
        return now.restingPairs(a, b, c, s);
    }

    public int slips(int i, int s, int o) {
        if (!now.hasPerson(i) || !isStep(s) || !within(o, 0, TENTHS)) {
            return refuse(BAD);
        }
        int others = now.othersWhoKnow(i, s);
        long good = 0;
        long all = 0;
        for (int speaking = 0; speaking < 1 << PEOPLE; speaking++) {
            if ((speaking & others) == speaking) {
                long odds = oddsOf(others, speaking, o);
                all += odds;
                good += now.couldMeet(i, s, speaking, now.stand.minute) ? odds : 0;
            }
        }
        keepFraction(good, all);
        return 1;
    }

    public int evenings(int seed, int n) {
        if (!within(seed, 0, LAST_SEED) || !within(n, 0, LONGEST_WAIT)) {
            return refuse(BAD);
        }
        draft.copyPeople(now);
        long x = seed;
        for (int k = 0; k < n; k++) {
            x = (x * 1103515245L + 12345L) % 2147483648L;
            int i = (int) (x / 65536L % PEOPLE);
            if (draft.hasPerson(i)) {
                draft.introduce(i, (int) (x / 1048576L % STEPS));
            } else {
                draft.stand.passMinute();
            }
        }
        return draft.stand.knownTogether();
    }

    // ---- what there is

    public long part(int what) {
        switch (what) {
            case 0: return above;
            case 1: return below;
            default: return refuse(BAD);
        }
    }

    public int image(int i) {
        if (!within(i, 0, IMAGES - 1)) {
            return refuse(BAD);
        }
        images[i].copyFrom(now);
        kept[i] = true;
        return 1;
    }

    public int from(int i) {
        if (!within(i, 0, IMAGES - 1)) {
            return refuse(BAD);
        }
        if (!kept[i]) {
            return refuse(NO);
        }
        now.copyFrom(images[i]);
        return 1;
    }

    public int status(int what) {
        switch (what) {
            case 0: return bads;
            case 1: return nos;
            case 2: return fulls;
            default:
                refuse(BAD);
                return -1;
        }
    }

    public int count(int what) {
        return within(what, 0, 9) ? counted(what) : refuse(BAD);
    }

    public long digest() {
        long h = 1571;
        for (int what = 0; what <= 9; what++) {
            h = 31 * h + counted(what);
        }
        h = now.digestOn(h);
        h = 31 * h + above;
        return 31 * h + below;
    }

    // ---- what serves them

    private static boolean within(int x, int low, int high) {
        return low <= x && x <= high;
    }

    private static boolean isStep(int s) {
        return within(s, 0, LAST_STEP);
    }

    private int refuse(int why) {
        if (why == BAD) {
            bads++;
        } else if (why == NO) {
            nos++;
        } else {
            fulls++;
        }
        return why;
    }

    /** For calls whose good answers may be as low as NONE. */
    private int refusePlace() {
        refuse(BAD);
        return BAD_PLACE;
    }

    private int add(Rows rows, int a, int b, int c, int d) {
        if (rows.size >= ROWS) {
            return refuse(FULL);
        }
        rows.append(a, b, c, d);
        return rows.size;
    }

    private int counted(int what) {
        switch (what) {
            case 0: return now.people;
            case 1: return now.stand.minute;
            case 2: return now.stand.knownTogether();
            case 3: return Integer.bitCount(now.stand.carpets);
            case 4: return now.stand.atTop();
            case 5: return now.sights.size;
            case 6: return now.notes.size;
            case 7: return now.marks.size;
            case 8: return now.pastCount;
            default: return text.size;
        }
    }

    /** In how many of 10 by 10 by .. cases just these of the others speak. */
    private static long oddsOf(int others, int speaking, int o) {
        long odds = 1;
        for (int j = 0; j < PEOPLE; j++) {
            if ((others >> j & 1) == 1) {
                odds *= (speaking >> j & 1) == 1 ? TENTHS - o : o;
            }
        }
        return odds;
    }

    private void keepFraction(long good, long all) {
        long divisor = greatestDivisor(good, all);
        if (divisor > 0) {
            above = good / divisor;
            below = all / divisor;
        }
    }

    private static long greatestDivisor(long a, long b) {
        // Numbers here are at most 100000, so Euclid is long done by then.
        for (int k = 0; k < 100 && b != 0; k++) {
            long rest = a % b;
            a = b;
            b = rest;
        }
        return a;
    }

    /** A tree of kinds: what one of a kind answers to a question of two numbers. */
    private abstract static class KindTree {
        abstract int answer(int kind, int x, int t);

        /** The question to put next of a set of kinds that is not empty. */
        abstract int bestQuestion(int set);

        /** Kinds (bits) that would have given all answers told of one subject. */
        int fitting(Rows rows, int subject) {
            int set = 0;
            for (int kind = 0; kind < KINDS; kind++) {
                if (fits(kind, rows, subject)) {
                    set |= 1 << kind;
                }
            }
            return set;
        }

        int nextQuestion(Rows rows, int subject) {
            int set = fitting(rows, subject);
            return set == 0 ? NONE : bestQuestion(set);
        }

        private boolean fits(int kind, Rows rows, int subject) {
            for (int row = 0; row < rows.size; row++) {
                boolean concerns = rows.cell(row, 0) == subject;
                if (concerns && answer(kind, rows.cell(row, 1), rows.cell(row, 2)) != rows.cell(row, 3)) {
                    return false;
                }
            }
            return true;
        }

        int mostAlike(int set, int x, int t) {
            int most = 0;
            for (int a = 0; a < KINDS; a++) {
                if ((set >> a & 1) == 1) {
                    most = Math.max(most, alike(set, answer(a, x, t), x, t));
                }
            }
            return most;
        }

        private int alike(int set, int value, int x, int t) {
            int same = 0;
            for (int b = 0; b < KINDS; b++) {
                if ((set >> b & 1) == 1 && answer(b, x, t) == value) {
                    same++;
                }
            }
            return same;
        }
    }

    /** Kinds of steps: how much one wants to have said, by weight x in minute t of a day. */
    private static final class StepKinds extends KindTree {
        static final int PLAIN = 0, PROUD = 1, CREAKY = 2, SEVENTH = 3, GENTLE = 4;

        int answer(int kind, int x, int t) {
            int plain = 1;
            int proud = plain + 1;
            int creaky = plain + x / 4;
            switch (kind) {
                case PLAIN: return plain;
                case PROUD: return proud;
                case CREAKY: return creaky;
                case SEVENTH: return t % 2 == 1 ? proud + 2 : proud;
                case GENTLE: return x <= 5 ? 0 : plain;
                default: return Math.min(2 * creaky, 5);
            }
        }

        int bestQuestion(int set) {
            int best = NONE;
            int fewest = KINDS + 1;
            for (int t = 0; t <= 1; t++) {
                for (int g = 1; g <= HEAVIEST; g++) {
                    int most = mostAlike(set, g, t);
                    if (most < fewest) {
                        fewest = most;
                        best = 100 * t + g;
                    }
                }
            }
            return best;
        }
    }

    /** Kinds of people: what a word is worth, from place x in minute t of a day. */
    private static final class PersonKinds extends KindTree {
        static final int GUEST = 0, BUTLER = 1, CHILD = 2, HEIR = 3, BURGLAR = 4, EVENING = 18;

        int answer(int kind, int x, int t) {
            int guest = 1;
            int butler = guest + 1;
            switch (kind) {
                case GUEST: return guest;
                case BUTLER: return butler;
                case CHILD: return t >= EVENING ? 0 : guest;
                case HEIR: return x == NONE ? butler - 1 : butler;
                case BURGLAR: return t % 2 == 1 ? guest : 0;
                default: return t >= EVENING ? 2 * butler : butler;
            }
        }

        int bestQuestion(int set) {
            int best = NONE;
            int fewest = KINDS + 1;
            for (int t = 0; t < DAY; t++) {
                for (int p = NONE; p <= TOP; p++) {
                    int most = mostAlike(set, p, t);
                    if (most < fewest) {
                        fewest = most;
                        best = 10 * t + p + 1;
                    }
                }
            }
            return best;
        }
    }

    /** Up to six rows of four numbers: what was seen, noted, marked. */
    private static final class Rows {
        static final int WIDTH = 4;

        int size;
        private final int[] cells;

        Rows() {
            size = 0;
            cells = new int[ROWS * WIDTH];
        }

        int cell(int row, int column) {
            int k = row * WIDTH + column;
            return within(k, 0, cells.length - 1) ? cells[k] : 0;
        }

        void append(int a, int b, int c, int d) {
            int k = size * WIDTH;
            if (within(k, 0, cells.length - WIDTH)) {
                cells[k] = a;
                cells[k + 1] = b;
                cells[k + 2] = c;
                cells[k + 3] = d;
                size++;
            }
        }

        int drop() {
            int before = size;
            size = 0;
            return before;
        }

        void copyFrom(Rows other) {
            size = other.size;
            for (int k = 0; k < cells.length; k++) {
                cells[k] = other.cells[k];
            }
        }

        long digestOn(long start, int columns) {
            long h = start;
            for (int row = 0; row < size; row++) {
                for (int column = 0; column < columns; column++) {
                    h = 31 * h + cell(row, column);
                }
            }
            return h;
        }
    }

    /** How a house stands: just what may be undone. */
    private static final class Stand {
        final int[] stepKind;
        final int[] knows;
        final int[] where;
        int carpets;
        int minute;

        Stand() {
            stepKind = new int[STEPS];
            knows = new int[PEOPLE];
            where = new int[PEOPLE];
            reset();
        }

        void reset() {
            for (int s = 0; s < STEPS; s++) {
                stepKind[s] = StepKinds.PLAIN;
            }
            for (int i = 0; i < PEOPLE; i++) {
                knows[i] = 0;
                where[i] = NONE;
            }
            carpets = 0;
            minute = 0;
        }

        void copyFrom(Stand other) {
            for (int s = 0; s < STEPS; s++) {
                stepKind[s] = other.stepKind[s];
            }
            for (int i = 0; i < PEOPLE; i++) {
                knows[i] = other.knows[i];
                where[i] = other.where[i];
            }
            carpets = other.carpets;
            minute = other.minute;
        }

        boolean isKnown(int i, int s) {
            return (knows[i] >> s & 1) == 1;
        }

        int knowers(int s) {
            int set = 0;
            for (int i = 0; i < PEOPLE; i++) {
                if (isKnown(i, s)) {
                    set |= 1 << i;
                }
            }
            return set;
        }

        int knownTogether() {
            int sum = 0;
            for (int i = 0; i < PEOPLE; i++) {
                sum += Integer.bitCount(knows[i]);
            }
            return sum;
        }

        int atTop() {
            int sum = 0;
            for (int i = 0; i < PEOPLE; i++) {
                if (where[i] == TOP) {
                    sum++;
                }
            }
            return sum;
        }

        /** Steps that know a name a minute later, of those that know it. */
        int toldOn(int known) {
            int heard = 0;
            for (int k = 0; k < CARPETS; k++) {
                boolean told = (known & carpets & 1 << k) != 0;
                int next = stepKind[k + 1];
                // These two alone: the other kinds hear nothing, though under PLAIN.
                if (told && (next == StepKinds.PLAIN || next == StepKinds.GENTLE)) {
                    heard |= 1 << (k + 1);
                }
            }
            return known | heard;
        }

        void passMinute() {
            for (int i = 0; i < PEOPLE; i++) {
                knows[i] = toldOn(knows[i]);
            }
            minute++;
        }

        void passMinutes(int n) {
            for (int k = 0; k < n && minute < LAST_MINUTE; k++) {
                passMinute();
            }
        }

        void learn(int i, int s) {
            if (within(i, 0, PEOPLE - 1)) {
                knows[i] |= 1 << s;
            }
        }

        void stayAt(int i, int place) {
            if (within(i, 0, PEOPLE - 1)) {
                where[i] = place;
            }
        }

        void putIn(int s, int kind) {
            stepKind[s] = kind;
            for (int i = 0; i < PEOPLE; i++) {
                knows[i] &= ~(1 << s);
            }
        }

        private boolean bearsAbove(int i, int place) {
            return place >= LAST_STEP || isKnown(i, place + 1);
        }

        void walk(int i, int up) {
            int place = where[i];
            if (up == 0) {
                where[i] = place - 1;
            } else if (bearsAbove(i, place)) {
                where[i] = place + 1;
            }
        }

        int highest(int i) {
            for (int place = where[i]; place < TOP; place++) {
                if (!bearsAbove(i, place)) {
                    return place;
                }
            }
            return TOP;
        }
    }

    /** All that an image keeps. */
    private static final class House {
        static final int MOST_PAST = 8, REWARD = 4;

        int people;
        final int[] kind;
        final int[] weight;
        final Stand stand;
        final Stand[] past;
        int pastCount;
        final Rows sights;
        final Rows notes;
        final Rows marks;
        final StepKinds stepKinds;
        final PersonKinds personKinds;

        House() {
            people = 0;
            kind = new int[PEOPLE];
            weight = new int[PEOPLE];
            stand = new Stand();
            past = new Stand[MOST_PAST];
            for (int k = 0; k < MOST_PAST; k++) {
                past[k] = new Stand();
            }
            pastCount = 0;
            sights = new Rows();
            notes = new Rows();
            marks = new Rows();
            stepKinds = new StepKinds();
            personKinds = new PersonKinds();
        }

        void empty() {
            people = 0;
            stand.reset();
            pastCount = 0;
            sights.drop();
            notes.drop();
            marks.drop();
        }

        void copyPeople(House other) {
            people = other.people;
            for (int i = 0; i < PEOPLE; i++) {
                kind[i] = other.kind[i];
                weight[i] = other.weight[i];
            }
            stand.copyFrom(other.stand);
        }

        void copyFrom(House other) {
            copyPeople(other);
            pastCount = other.pastCount;
            for (int k = 0; k < MOST_PAST; k++) {
                past[k].copyFrom(other.past[k]);
            }
            sights.copyFrom(other.sights);
            notes.copyFrom(other.notes);
            marks.copyFrom(other.marks);
        }

        boolean hasPerson(int i) {
            return within(i, 0, people - 1) && i < PEOPLE;
        }

        void welcome(int newKind, int newWeight) {
            if (within(people, 0, PEOPLE - 1)) {
                kind[people] = newKind;
                weight[people] = newWeight;
                people++;
                // An earlier stand knows nothing of the one who came.
                pastCount = 0;
            }
        }

        void remember() {
            if (pastCount >= MOST_PAST) {
                dropOldest();
            }
            if (within(pastCount, 0, MOST_PAST - 1)) {
                past[pastCount].copyFrom(stand);
                pastCount++;
            }
        }

        private void dropOldest() {
            Stand oldest = past[0];
            for (int k = 1; k < MOST_PAST; k++) {
                past[k - 1] = past[k];
            }
            past[MOST_PAST - 1] = oldest;
            pastCount = MOST_PAST - 1;
        }

        void goBack() {
            if (within(pastCount, 1, MOST_PAST)) {
                pastCount--;
                stand.copyFrom(past[pastCount]);
            }
        }

        int worth(int i, int minute) {
            return personKinds.answer(kind[i], stand.where[i], minute % DAY);
        }

        int wanted(int i, int s, int minute) {
            return stepKinds.answer(stand.stepKind[s], weight[i], minute % DAY);
        }

        int othersWhoKnow(int i, int s) {
            return stand.knowers(s) & ~(1 << i);
        }

        int wordOf(int speakers, int minute) {
            int sum = 0;
            for (int j = 0; j < people && j < PEOPLE; j++) {
                if ((speakers >> j & 1) == 1) {
                    sum += worth(j, minute);
                }
            }
            return sum;
        }

        boolean couldMeet(int i, int s, int speakers, int minute) {
            return stand.isKnown(i, s) || wordOf(speakers, minute) >= wanted(i, s, minute);
        }

        void introduce(int i, int s) {
            if (couldMeet(i, s, othersWhoKnow(i, s), stand.minute)) {
                stand.learn(i, s);
            }
            stand.passMinute();
        }

        /** Of these steps those that one could meet in a minute, all others as now. */
        int meetable(int i, int steps, int minute) {
            int set = 0;
            for (int s = 0; s < STEPS; s++) {
                if ((steps >> s & 1) == 1 && couldMeet(i, s, othersWhoKnow(i, s), minute)) {
                    set |= 1 << s;
                }
            }
            return set;
        }

        /** Steps from where one is up to a place that one does not know. */
        int lacking(int i, int place) {
            int set = 0;
            for (int s = stand.where[i] + 1; s <= place && s < STEPS; s++) {
                set |= 1 << s;
            }
            return set & ~stand.knows[i];
        }

        boolean fitsSights(int i, int set) {
            for (int row = 0; row < sights.size; row++) {
                if (sights.cell(row, 0) == i) {
                    int step = 1 << sights.cell(row, 1);
                    int known = sights.cell(row, 2) == 1 ? step - 1 : 2 * step - 1;
                    if ((set & (2 * step - 1)) != known) {
                        return false;
                    }
                }
            }
            return true;
        }

        int restingPairs(int a, int b, int c, int s) {
            int rest = 0;
            for (int pair = 0; pair < 4; pair++) {
                boolean aStays = hostGets(a, b, c, s, pair, 0) >= hostGets(a, b, c, s, pair ^ 1, 0);
                boolean bStays = hostGets(a, b, c, s, pair, 1) >= hostGets(a, b, c, s, pair ^ 2, 1);
                if (aStays && bStays) {
                    rest |= 1 << pair;
                }
            }
            return rest;
        }

        private int hostGets(int a, int b, int c, int s, int pair, int which) {
            int speakers = (pair & 1) << a | (pair >> 1 & 1) << b;
            int gets = couldMeet(c, s, speakers, stand.minute) ? REWARD : 0;
            if ((pair >> which & 1) == 1) {
                gets -= 1 + worth(which == 0 ? a : b, stand.minute);
            }
            return gets;
        }

        long digestOn(long start) {
            long h = start;
            for (int s = 0; s < STEPS; s++) {
                h = 31 * h + stand.stepKind[s];
            }
            h = 31 * h + stand.carpets;
            for (int i = 0; i < people && i < PEOPLE; i++) {
                h = 31 * h + kind[i];
                h = 31 * h + weight[i];
                h = 31 * h + stand.where[i];
                h = 31 * h + stand.knows[i];
            }
            h = sights.digestOn(h, 3);
            h = notes.digestOn(h, 4);
            return marks.digestOn(h, 4);
        }
    }

    /** The soonest row of introductions for one to a place. */
    private static final class Plan {
        static final int LONGEST = 40, NEVER = LONGEST + 1;

        /** By minute: steps that one lacks and could meet then. */
        private final int[] meetable;
        /** By steps met: behind how many minutes they can be; from which minute on the rest still can. */
        private final int[] soonest;
        private final int[] latest;
        private int lacking;
        private int length;

        Plan() {
            meetable = new int[LONGEST];
            soonest = new int[STEP_SETS];
            latest = new int[STEP_SETS];
            lacking = 0;
            length = NONE;
        }

        /** How many minutes; or NONE. */
        int make(House house, int i, int place) {
            lacking = house.lacking(i, place);
            for (int d = 0; d < LONGEST; d++) {
                meetable[d] = house.meetable(i, lacking, house.stand.minute + d);
            }
            // A set comes behind all that it holds, as the greater number.
            for (int met = 0; met < STEP_SETS; met++) {
                soonest[met] = soonestOf(met);
            }
            int minutes = within(lacking, 0, STEP_SETS - 1) ? soonest[lacking] : NEVER;
            length = minutes == NEVER ? NONE : minutes;
            return length;
        }

        /** One of them is met last: as soon as may be behind the others. */
        private int soonestOf(int met) {
            int best = met == 0 ? 0 : NEVER;
            for (int s = 0; s < STEPS; s++) {
                int step = 1 << s;
                if ((met & lacking & step) != 0) {
                    best = Math.min(best, firstMinute(s, soonest[met ^ step]) + 1);
                }
            }
            return best;
        }

        private int firstMinute(int s, int first) {
            for (int d = Math.max(first, 0); d < LONGEST; d++) {
                if ((meetable[d] >> s & 1) == 1) {
                    return d;
                }
            }
            return LONGEST;
        }

        /** What is done in the k-th minute of the first row of that length. */
        int deed(int k) {
            for (int met = STEP_SETS - 1; met >= 0; met--) {
                latest[met] = latestOf(met);
            }
            int met = 0;
            int deed = NONE;
            for (int d = 0; d <= k && d < length && d < LONGEST; d++) {
                deed = firstDeed(met, d);
                met |= deed == NONE ? 0 : 1 << deed;
            }
            return deed;
        }

        /** One of the rest is met first: as late as may be ahead of the others. */
        private int latestOf(int met) {
            int best = met == lacking ? length : NONE;
            for (int s = 0; s < STEPS; s++) {
                int step = 1 << s;
                if ((lacking & ~met & step) != 0) {
                    best = Math.max(best, lastMinute(s, latest[met | step]));
                }
            }
            return best;
        }

        private int lastMinute(int s, int end) {
            for (int d = Math.min(end, LONGEST) - 1; d >= 0; d--) {
                if ((meetable[d] >> s & 1) == 1) {
                    return d;
                }
            }
            return NONE;
        }

        /** Waiting, if that still leaves time; else the lowest step that does. */
        private int firstDeed(int met, int d) {
            if (leavesTime(met, d)) {
                return NONE;
            }
            for (int s = 0; s < STEPS; s++) {
                int step = 1 << s;
                if ((meetable[d] & ~met & step) != 0 && leavesTime(met | step, d)) {
                    return s;
                }
            }
            return NONE;
        }

        private boolean leavesTime(int met, int d) {
            return within(met, 0, STEP_SETS - 1) && latest[met] > d;
        }
    }

    /** The text, its tokens one behind another, and the house that they tell. */
    private static final class Text {
        static final int END = 0, WORD = 1, NUMBER = 2, STOP = 3, WRONG = 4;
        static final int HOUSE = 0, ONE = 1, KNOWS = 2, CARPET = 3, AT = 4, MINUTES = 5;
        static final int LONGEST_MINUTES = 99, FAULT = -10;

        int size;
        private final int[] bytes;
        /** The token in hand: where it begins, the place behind it, what it is, which one. */
        private int start;
        private int behind;
        private int sort;
        private int value;
        /** The item in hand: its word (or NONE), and its numbers so far. */
        private int word;
        private int given;
        private final int[] numbers;
        private int items;

        Text() {
            size = 0;
            bytes = new int[TEXT_BYTES];
            start = 0;
            behind = 0;
            sort = END;
            value = 0;
            word = NONE;
            given = 0;
            numbers = new int[STEPS];
            items = 0;
        }

        void append(int c) {
            if (within(size, 0, TEXT_BYTES - 1)) {
                bytes[size] = c;
                size++;
            }
        }

        /** How many items; or -10 less the fault, and then the house is no more than begun. */
        int readInto(House house) {
            house.empty();
            behind = 0;
            word = NONE;
            items = 0;
            // Each token has a byte of its own, so this many reach the end.
            for (int k = 0; k <= TEXT_BYTES; k++) {
                nextToken();
                if (sort == END && word == NONE && items > 0) {
                    return items;
                }
                if (!takes(house)) {
                    return FAULT - start;
                }
            }
            return FAULT - start;
        }

        // ---- items

        /** Whether the token in hand can stand here. */
        private boolean takes(House house) {
            if (word == NONE) {
                return begins(house);
            }
            if (given < numbersOf(word)) {
                return takesNumber(house);
            }
            if (sort != STOP) {
                return false;
            }
            settle(house);
            word = NONE;
            items++;
            return true;
        }

        private boolean begins(House house) {
            boolean inTurn = (value == HOUSE) == (items == 0);
            boolean full = value == ONE && house.people >= PEOPLE;
            if (sort != WORD || !inTurn || full) {
                return false;
            }
            word = value;
            given = 0;
            return true;
        }

        private boolean takesNumber(House house) {
            boolean asTold = sort == NUMBER && within(value, lowest(), highest(house.people));
            if (!asTold || !within(given, 0, STEPS - 1)) {
                return false;
            }
            numbers[given] = value;
            given++;
            return true;
        }

        private static int numbersOf(int word) {
            switch (word) {
                case HOUSE: return STEPS;
                case CARPET:
                case MINUTES: return 1;
                default: return 2;
            }
        }

        private int lowest() {
            boolean fromOne = word == MINUTES || word == ONE && given == 1;
            return fromOne ? 1 : 0;
        }

        private int highest(int people) {
            switch (word) {
                case HOUSE: return KINDS - 1;
                case ONE: return given == 0 ? KINDS - 1 : HEAVIEST;
                case KNOWS: return given == 0 ? people - 1 : LAST_STEP;
                case CARPET: return CARPETS - 1;
                case AT: return given == 0 ? people - 1 : TOP;
                default: return LONGEST_MINUTES;
            }
        }

        /** The item is whole: the house becomes as it tells. */
        private void settle(House house) {
            int a = numbers[0];
            int b = numbers[1];
            switch (word) {
                case HOUSE:
                    settleKinds(house.stand);
                    break;
                case ONE:
                    house.welcome(a, b);
                    break;
                case KNOWS:
                    house.stand.learn(a, b);
                    break;
                case CARPET:
                    house.stand.carpets |= 1 << a;
                    break;
                case AT:
                    house.stand.stayAt(a, b);
                    break;
                default:
                    house.stand.passMinutes(a);
            }
        }

        private void settleKinds(Stand stand) {
            for (int s = 0; s < STEPS; s++) {
                stand.stepKind[s] = numbers[s];
            }
        }

        // ---- tokens

        private void nextToken() {
            start = behindRun(behind, ' ', ' ');
            behind = start + 1;
            value = 0;
            int c = byteAt(start);
            if (c == NONE) {
                sort = END;
                behind = start;
            } else if (c == ';') {
                sort = STOP;
            } else if (within(c, 'a', 'z')) {
                behind = behindRun(start, 'a', 'z');
                value = wordRead();
                sort = value == NONE ? WRONG : WORD;
            } else if (within(c, '0', '9')) {
                behind = behindRun(start, '0', '9');
                sort = behind - start > 2 ? WRONG : NUMBER;
                value = numberRead();
            } else {
                sort = WRONG;
            }
        }

        /** The first place from one on whose byte is not one of those told. */
        private int behindRun(int first, int low, int high) {
            for (int place = first; place < size; place++) {
                if (!within(byteAt(place), low, high)) {
                    return place;
                }
            }
            return size;
        }

        private int byteAt(int place) {
            return within(place, 0, TEXT_BYTES - 1) && place < size ? bytes[place] : NONE;
        }

        private int numberRead() {
            int number = 0;
            for (int place = start; place < behind && place < start + 2; place++) {
                number = 10 * number + byteAt(place) - '0';
            }
            return number;
        }

        private int wordRead() {
            for (int k = HOUSE; k <= MINUTES; k++) {
                if (reads(nameOf(k))) {
                    return k;
                }
            }
            return NONE;
        }

        private boolean reads(String name) {
            if (name.length() != behind - start) {
                return false;
            }
            for (int k = 0; k < name.length(); k++) {
                if (byteAt(start + k) != name.charAt(k)) {
                    return false;
                }
            }
            return true;
        }

        private static String nameOf(int word) {
            switch (word) {
                case HOUSE: return "house";
                case ONE: return "one";
                case KNOWS: return "knows";
                case CARPET: return "carpet";
                case AT: return "at";
                default: return "minutes";
            }
        }
    }
}
