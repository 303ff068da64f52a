import java.util.ArrayList;
import java.util.List;
import java.util.function.Consumer;

/** Promises 33 to 38: what there is, at the boundaries that the document names. */
public final class EdgesOfWhatThereIsTest {
    private static final String PLAIN = "house 0 0 0 0 0 0 0 0;";

    public static void main(String[] args) {
        fractionAtFirst();
        imagesOfTwo();
        imageOfNothing();
        imageTakesThePlace();
        fromNoneKept();
        fromLeavesWhatItKeepsNot();
        fromKeepsWhatMayBeUndone();
        fromHasTheRowsOfThen();
        statusOfEachReason();
        statusOfAnotherWhat();
        countAtFirstAndAtTheMost();
        countOfAnotherWhat();
        digestAtFirst();
        digestAtTheMost();
        digestOfWhatIsNotInIt();
        Due.finish();
    }

    // "THE FRACTION is 0 by 1 at first; lowest terms, below above 0."
    private static void fractionAtFirst() {
        Edge.asked("33: above at first", Edge::nothing, 0, "part", 0);
        Edge.asked("33: below at first", Edge::nothing, 1, "part", 1);
        Edge.bad("33: BAD", Edge::nothing, -2, "part", 2);
        Edge.bad("33: BAD", Edge::nothing, -2, "part", -1);
        Consumer<StairManners> certain = Edge.told(PLAIN + "one 0 1;one 0 1;knows 1 0;").andThen(x -> x.slips(0, 0, 0));
        Edge.asked("33: 10 of 10", certain, 1, "part", 0);
        Edge.asked("33: 10 of 10", certain, 1, "part", 1);
        Edge.asked("33: 0 of 10", certain.andThen(x -> x.slips(0, 0, 10)), 0, "part", 0);
        Edge.asked("33: 0 of 10", certain.andThen(x -> x.slips(0, 0, 10)), 1, "part", 1);
    }

    // "IMAGES 0, 1"; 34: "An IMAGE is kept: 1. BAD."
    private static void imagesOfTwo() {
        for (int i = 0; i < 2; i++) {
            StairManners x = Edge.taken("34: kept", Edge::limits, 1, "image", i);
            long digest = x.digest();
            x.house();
            Due.is("35: it goes on from it", x.from(i), 1);
            Due.is("35: as it was", x.digest(), digest);
        }
        for (int i : new int[] {-1, 2}) {
            Edge.bad("34: there are two", Edge::limits, -2, "image", i);
            Edge.bad("35: there are two", Edge::limits, -2, "from", i);
            Edge.bad("35: BAD ahead of NO", Edge::nothing, -2, "from", i);
        }
    }

    private static void imageOfNothing() {
        StairManners x = Edge.taken("34: of a new object", Edge::nothing, 1, "image", 0);
        x.one(0, 1);
        x.carpet(0, 1);
        Due.is("35: from the IMAGE of nothing", x.from(0), 1);
        Due.is("35: nobody is there", x.count(0) + x.count(3) + x.count(8), 0);
    }

    // An IMAGE takes the place of the one kept there, and leaves the other.
    private static void imageTakesThePlace() {
        StairManners x = new StairManners();
        x.waits(1);
        x.image(0);
        x.waits(1);
        x.image(1);
        x.waits(1);
        x.image(0);
        Due.is("35: the other", x.from(1) + x.count(1), 3);
        Due.is("35: the last one kept", x.from(0) + x.count(1), 4);
        x.waits(9);
        Due.is("35: an IMAGE stays as it was kept", x.from(0) + x.count(1), 4);
        x.undo();
        Due.is("35: undo leaves it, too", x.from(0) + x.count(1) + x.count(8), 7);
    }

    // 35: "NO: none was kept."
    private static void fromNoneKept() {
        Edge.no("35: none", Edge::nothing, "from", 0);
        Edge.no("35: none", Edge::nothing, "from", 1);
        for (int i = 0; i < 2; i++) {
            int kept = i;
            Consumer<StairManners> one = x -> {
                x.one(0, 1);
                x.image(kept);
                x.waits(5);
            };
            Edge.no("35: the other alone was kept", one, "from", 1 - i);
            Edge.taken("35: kept", one, 1, "from", i);
            Edge.taken("35: kept still behind house()", one.andThen(StairManners::house), 1, "from", i);
            Edge.no("35: house() keeps none", one.andThen(StairManners::house), "from", 1 - i);
        }
    }

    // "IMAGES 0, 1 keep all but them, THE TEXT, THE FRACTION and STATUS"
    private static void fromLeavesWhatItKeepsNot() {
        StairManners x = Edge.made(Edge::six);
        x.image(1);
        x.clear();
        x.type(64);
        x.type(64);
        x.step(3, 4);
        x.slips(5, 3, 10);
        x.word(6);
        x.carpet(1, 1);
        for (int k = 0; k < 6; k++) {
            x.seen(0, 0, 0);
        }
        x.image(0);
        int[] counted = Edge.status(x);
        Due.is("35: goes on", x.from(1), 1);
        Due.is("35: THE TEXT stays", x.count(9), 2);
        Due.is("35: THE TEXT's bytes stay", x.read(), -10);
        Due.is("35: THE FRACTION stays", x.part(0) * 10 + x.part(1), 1);
        for (int what = 0; what < 3; what++) {
            Due.is("35: STATUS stays", x.status(what), counted[what]);
        }
        Due.is("35: SEEN ones are the IMAGE's", x.count(5), 1);
        Due.is("35: IMAGES stay", x.from(0) + x.count(5), 7);
    }

    // "what may be undone they keep"
    private static void fromKeepsWhatMayBeUndone() {
        for (int many : new int[] {0, 1, 8, 9}) {
            StairManners x = new StairManners();
            for (int k = 0; k < many; k++) {
                x.waits(1);
            }
            x.image(0);
            x.one(0, 1);
            Due.is("3: none may be undone", x.count(8), 0);
            Edge.pass(x, 9 * 60);
            x.from(0);
            int most = Math.min(many, 8);
            Due.is("35: may be undone", x.count(8), most);
            for (int k = 1; k <= most; k++) {
                Due.is("35: undone", x.undo(), many - k);
            }
            Due.is("35: no more", x.undo(), -3);
            Due.is("35: again from it", x.from(0) + x.count(8), 1 + most);
        }
    }

    // It goes on from what the rows held, though others are in their places by now.
    private static void fromHasTheRowsOfThen() {
        for (int rows = 1; rows <= 6; rows++) {
            StairManners x = Edge.made(Edge.told(PLAIN + "one 0 1;one 0 1;"));
            for (int k = 0; k < rows; k++) {
                x.seen(1, 7 - k, 0);
                x.note(k, 6, 1, 0);
                x.mark(1, k, 18 + k % 6, 4);
            }
            long digest = x.digest();
            x.image(0);
            for (int what = 0; what < 3; what++) {
                x.forget(what);
            }
            for (int k = 0; k < 6; k++) {
                x.seen(0, k, 1);
                x.note(7, 12, 22, 8);
                x.mark(0, 8, 5, 9);
            }
            x.from(0);
            Due.is("35: " + rows + " of each", x.digest(), digest);
            Due.is("35: nothing of the others", x.may(0, 0) + x.is(7) + x.kinds(0), 256 + 63 + 63);
        }
    }

    // STATUS: "how many calls were refused as BAD, NO, FULL (each answer told so below is such a one)"
    private static void statusOfEachReason() {
        for (int what = 0; what < 3; what++) {
            Edge.asked("36: at first", Edge::nothing, 0, "status", what);
        }
        StairManners x = Edge.made(Edge::limits);
        int[] due = {0, 0, 0};
        for (int k = 1; k <= 3; k++) {
            x.one(0, 13);
            due[0]++;
            x.high(6);
            due[0]++;
            x.from(2);
            due[0]++;
            x.meets(3, 3);
            due[1]++;
            x.goes(0, 1);
            due[1]++;
            x.carpet(4, 1);
            due[1]++;
            x.one(0, 1);
            due[2]++;
            x.type(1);
            due[2]++;
            x.seen(0, 0, 0);
            due[2]++;
            for (int what = 0; what < 3; what++) {
                Due.is("36: refused so", x.status(what), due[what]);
            }
        }
        // Answers that are no refusals: none of a plan, not so many, a FAULT, NONE, 0.
        x = Edge.made(Edge.told(PLAIN + "one 0 1;"));
        Due.is("20: none", x.plan(0, 0, -2), -6);
        Due.is("20: not so many", Edge.taken("20", Edge.told(PLAIN + "one 0 1;at 0 0;"), -5, "plan", 0, 0, 0).status(0), 0);
        x.type(64);
        Due.is("6: a FAULT", x.read(), -40);
        Due.is("17, 18: NONE", x.high(0) + x.hears(0, 0), -2);
        Due.is("7: not known", x.meets(0, 0), 0);
        Due.is("8: not borne", x.goes(0, 1), -1);
        Due.is("36: none was refused", x.status(0) + x.status(1) + x.status(2), 0);
    }

    // 36: "-1: another what (counts as BAD)."
    private static void statusOfAnotherWhat() {
        for (int what : new int[] {-1, 3, Integer.MIN_VALUE, Integer.MAX_VALUE}) {
            Edge.bad("36: another what", Edge::nothing, -1, "status", what);
            Edge.bad("36: another what", Edge::limits, -1, "status", what);
        }
        StairManners x = new StairManners();
        x.status(3);
        x.status(-1);
        Due.is("36: both count as BAD", x.status(0), 2);
        Due.is("36: asking STATUS counts nothing", x.status(0) + x.status(1) + x.status(2), 2);
    }

    // 37: "How many: 0 PEOPLE, 1 the MINUTE, .. 9 bytes of THE TEXT."
    private static void countAtFirstAndAtTheMost() {
        int[] most = {6, 9999, 0, 2, 1, 6, 6, 6, 8, 150};
        for (int what = 0; what <= 9; what++) {
            Edge.asked("37: at first", Edge::nothing, 0, "count", what);
            if (what != 2) {
                Edge.asked("37: at the most", Edge::limits, most[what], "count", what);
            }
        }
        String six = "one0 5;one0 5;one0 5;one0 5;one0 5;one0 5;";
        Consumer<StairManners> top = Edge.told("house4 4 4 4 4 4 4 4;" + six + "at0 8;at1 8;at2 8;at3 8;at4 8;at5 8;");
        Edge.asked("37: all are at the top", top, 6, "count", 4);
        Edge.asked("37: none is on STEP 7", Edge.told("house4 4 4 4 4 4 4 4;" + six + "at0 7;at5 7;"), 0, "count", 4);
        Edge.asked("37: all KNOW all", EdgesOfWhatThereIsTest::allKnowAll, 48, "count", 2);
        Edge.asked("37: all CARPETS", EdgesOfWhatThereIsTest::allKnowAll, 7, "count", 3);
    }

    private static void allKnowAll(StairManners x) {
        x.step(0, 4);
        for (int i = 0; i < 6; i++) {
            x.one(0, 5);
            x.meets(i, 0);
        }
        for (int k = 0; k < 7; k++) {
            x.carpet(k, 1);
        }
        x.waits(7);
    }

    private static void countOfAnotherWhat() {
        for (int what : new int[] {-1, 10, Integer.MIN_VALUE, Integer.MAX_VALUE}) {
            Edge.bad("37: BAD", Edge::nothing, -2, "count", what);
            Edge.bad("37: BAD", Edge::limits, -2, "count", what);
        }
    }

    private static long folded(List<Long> values) {
        long h = 1571;
        for (long v : values) {
            h = 31 * h + v;
        }
        return h;
    }

    private static void add(List<Long> values, long... more) {
        for (long v : more) {
            values.add(v);
        }
    }

    // 38: "h = 1571; then h = 31 h + v for each v"
    private static void digestAtFirst() {
        List<Long> values = new ArrayList<>();
        add(values, new long[10]);
        add(values, new long[8]);
        add(values, 0, 0, 1);
        Edge.asked("38: at first", Edge::nothing, folded(values), "digest");
    }

    // 38: "count(0) to count(9); KINDS of 8 STEPS; CARPETS as bits; of PEOPLE .. where (NONE: -1) ..; of MARKS i, p (NONE: -1), t, x"
    private static void digestAtTheMost() {
        List<Long> values = new ArrayList<>();
        // Who KNOWS: 0 knew 0, was told 1; 5 knew 1; 1 met 0 and was told 1; nobody knows 7, 6 leads nowhere.
        add(values, 6, 9999, 5, 2, 1, 6, 6, 6, 8, 150);
        add(values, 4, 0, 1, 2, 3, 4, 5, 3);
        add(values, 1 + 16);
        add(values, 0, 1, 8, 3, 1, 5, 6, 3, 2, 6, -1, 0, 3, 12, -1, 0, 4, 4, -1, 0, 5, 8, -1, 2);
        for (int k = 0; k < 6; k++) {
            add(values, k, k, k % 2);
        }
        for (int k = 0; k < 6; k++) {
            add(values, k, k + 1, k, k);
        }
        for (int k = 0; k < 6; k++) {
            add(values, k, k - 1, k, k);
        }
        add(values, 7, 10);
        Edge.asked("38: all at its limit", Edge::limits, folded(values), "digest");
    }

    // Neither STATUS nor IMAGES nor what may be undone (but how many) are in it.
    private static void digestOfWhatIsNotInIt() {
        StairManners x = Edge.made(Edge::limits);
        long digest = x.digest();
        x.word(6);
        x.one(0, 1);
        x.undo();
        x.step(7, 3);
        Due.is("38: as it was", x.digest(), digest);
        x.image(0);
        x.image(1);
        Due.is("38: as it was behind IMAGES", x.digest(), digest);
        x.clear();
        Edge.type(x, " ".repeat(150));
        Due.is("38: of THE TEXT how many bytes alone", x.digest(), digest);
    }
}
