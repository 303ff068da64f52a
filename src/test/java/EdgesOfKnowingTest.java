import java.util.function.Consumer;

/** Promises 21 to 32: what one may know, at the boundaries that the document names. */
public final class EdgesOfKnowingTest {
    private static final String PLAIN = "house 0 0 0 0 0 0 0 0;";
    private static final String TWO = PLAIN + "one 0 1;one 0 1;";

    public static void main(String[] args) {
        seenSixAtTheMost();
        seenAheadOfEachStep();
        seenOfNoneAndOfAnother();
        mayOfNoSet();
        notesSixAtTheMost();
        marksSixAtTheMost();
        forgetNoneAndAll();
        isOfAllAndOfNoKind();
        lookOfOneKindAndOfNone();
        lookOfLikeOnesTheLeast();
        kindsOfAllAndOfNone();
        askOfOneKindAndOfNone();
        askOfLikeOnesTheLeast();
        hostsByWhatIsWanted();
        hostsWhoDoNotKnow();
        hostsAndNobodyElse();
        slipsOfNoneAndOfTen();
        slipsLowestTerms();
        slipsOfNobodyElse();
        slipsRefused();
        eveningsOfNoMinute();
        eveningsFirstAndLastOne();
        eveningsOfSixty();
        eveningsOfNobody();
        eveningsWithCarpets();
        Due.finish();
    }

    // 21: "SEEN: how many there are. BAD; FULL: 6."
    private static void seenSixAtTheMost() {
        for (int many = 0; many < 6; many++) {
            int rows = many;
            Consumer<StairManners> ahead = Edge.told(TWO).andThen(x -> sights(x, rows));
            Due.is("37: SEEN", Edge.taken("21: room for one more", ahead, many + 1, "seen", 1, 7, 1).count(5), many + 1);
        }
        Consumer<StairManners> six = Edge.told(TWO).andThen(x -> sights(x, 6));
        Edge.full("21: a 7th", six, "seen", 0, 0, 0);
        Edge.full("21: a 7th, of another", six, "seen", 1, 7, 1);
        Edge.bad("21: BAD ahead of FULL", six, -2, "seen", 2, 0, 0);
        Edge.bad("21: BAD ahead of FULL", six, -2, "seen", 0, 8, 0);
        Edge.bad("21: BAD ahead of FULL", six, -2, "seen", 0, 0, 2);
        Edge.taken("23: room for NOTES still", six, 1, "note", 0, 1, 0, 0);
        Edge.taken("24: room for MARKS still", six, 1, "mark", 0, 0, 0, 0);
        Edge.taken("21: room behind forget", six.andThen(x -> x.forget(0)), 1, "seen", 0, 0, 0);
    }

    private static void sights(StairManners x, int many) {
        for (int k = 0; k < many; k++) {
            x.seen(0, k, 0);
        }
    }

    private static void may(Consumer<StairManners> ahead, int i, int sets, int inAll, int inSome) {
        Edge.asked("22: how many", ahead, sets, "may", i, 0);
        Edge.asked("22: in all", ahead, inAll, "may", i, 1);
        Edge.asked("22: in some", ahead, inSome, "may", i, 2);
    }

    // "one stopped ahead of STEP s (0 .. 7) .. (1: it KNEW all below, not that; 0: it went on: all below and that)"
    private static void seenAheadOfEachStep() {
        int[] below = {0, 1, 3, 7, 15, 31, 63, 127, 255};
        int[] sets = {128, 64, 32, 16, 8, 4, 2, 1};
        for (int s = 0; s < 8; s++) {
            int step = s;
            may(Edge.told(TWO).andThen(x -> x.seen(0, step, 1)), 0, sets[s], below[s], 255 - (1 << s));
            may(Edge.told(TWO).andThen(x -> x.seen(0, step, 0)), 0, sets[s], below[s + 1], 255);
            may(Edge.told(TWO).andThen(x -> x.seen(0, step, 0)), 1, 256, 0, 255);
        }
    }

    // "(of 256 sets)": what one KNOWS in truth is not looked at; of another nothing is seen.
    private static void seenOfNoneAndOfAnother() {
        may(Edge.told(TWO), 0, 256, 0, 255);
        may(Edge.told(TWO + "knows 0 0;knows 0 7;"), 0, 256, 0, 255);
        Consumer<StairManners> both = Edge.told(TWO + "knows 0 0;").andThen(x -> {
            x.seen(0, 0, 1);
            x.seen(1, 0, 0);
        });
        may(both, 0, 128, 0, 254);
        may(both, 1, 128, 1, 255);
    }

    // 22: "in all (1; bits; NONE: no set), in some (2; bits)"
    private static void mayOfNoSet() {
        Consumer<StairManners> both = Edge.told(TWO).andThen(x -> {
            x.seen(0, 7, 1);
            x.seen(0, 7, 0);
            x.seen(1, 7, 0);
        });
        may(both, 0, 0, -1, 0);
        may(both, 1, 1, 255, 255);
        may(Edge.told(TWO).andThen(x -> x.seen(0, 7, 1)), 0, 1, 127, 127);
        may(Edge.told(TWO).andThen(x -> {
            x.seen(0, 3, 0);
            x.seen(0, 4, 1);
        }), 0, 8, 15, 239);
        may(Edge.told(TWO).andThen(x -> {
            x.seen(0, 4, 0);
            x.seen(0, 4, 1);
        }), 0, 0, -1, 0);
        may(Edge.told(TWO).andThen(x -> {
            x.seen(0, 5, 0);
            x.seen(0, 4, 1);
        }), 0, 0, -1, 0);
        may(Edge.told(TWO).andThen(x -> {
            x.seen(0, 7, 0);
            x.seen(0, 0, 1);
        }), 0, 0, -1, 0);
    }

    // 23: "how many there are. BAD; FULL: 6."; "x (0 .. 9) for WEIGHT g (1 .. 12) in MINUTE t (0 .. 23)"
    private static void notesSixAtTheMost() {
        int[][] told = {{0, 1, 0, 0}, {7, 1, 0, 0}, {0, 12, 0, 0}, {0, 1, 23, 0}, {0, 1, 0, 9}, {7, 12, 23, 9}};
        for (int many = 0; many < 6; many++) {
            int rows = many;
            for (int[] t : told) {
                StairManners x = Edge.taken("23: room for one more", y -> notes(y, rows), many + 1, "note", t);
                Due.is("37: NOTES", x.count(6), many + 1);
            }
        }
        Consumer<StairManners> six = x -> notes(x, 6);
        Edge.full("23: a 7th", six, "note", 0, 1, 0, 0);
        Edge.full("23: a 7th", six, "note", 7, 12, 23, 9);
        Edge.bad("23: BAD ahead of FULL", six, -2, "note", 8, 1, 0, 0);
        Edge.bad("23: BAD ahead of FULL", six, -2, "note", 0, 0, 0, 0);
        Edge.bad("23: BAD ahead of FULL", six, -2, "note", 0, 1, 24, 0);
        Edge.bad("23: BAD ahead of FULL", six, -2, "note", 0, 1, 0, 10);
        Edge.taken("23: room behind forget", six.andThen(x -> x.forget(1)), 1, "note", 0, 1, 0, 0);
    }

    private static void notes(StairManners x, int many) {
        for (int k = 0; k < many; k++) {
            x.note(5, 12, 23, 9);
        }
    }

    // 24: "how many there are. BAD; FULL: 6."; "from place p (NONE .. 8) in MINUTE t (0 .. 23) was worth x (0 .. 9)"
    private static void marksSixAtTheMost() {
        int[][] told = {{0, -1, 0, 0}, {1, -1, 0, 0}, {0, 8, 0, 0}, {0, -1, 23, 0}, {0, -1, 0, 9}, {1, 8, 23, 9}};
        for (int many = 0; many < 6; many++) {
            int rows = many;
            for (int[] t : told) {
                StairManners x = Edge.taken("24: room for one more", Edge.told(TWO).andThen(y -> marks(y, rows)), many + 1, "mark", t);
                Due.is("37: MARKS", x.count(7), many + 1);
            }
        }
        Consumer<StairManners> six = Edge.told(TWO).andThen(x -> marks(x, 6));
        Edge.full("24: a 7th", six, "mark", 0, -1, 0, 0);
        Edge.full("24: a 7th", six, "mark", 1, 8, 23, 9);
        Edge.bad("24: BAD ahead of FULL", six, -2, "mark", 2, 0, 0, 0);
        Edge.bad("24: BAD ahead of FULL", six, -2, "mark", 0, -2, 0, 0);
        Edge.bad("24: BAD ahead of FULL", six, -2, "mark", 0, 9, 0, 0);
        Edge.bad("24: BAD ahead of FULL", six, -2, "mark", 0, 0, 24, 0);
        Edge.bad("24: BAD ahead of FULL", six, -2, "mark", 0, 0, 0, 10);
        Edge.taken("24: room behind forget", six.andThen(x -> x.forget(2)), 1, "mark", 0, 0, 0, 0);
    }

    private static void marks(StairManners x, int many) {
        for (int k = 0; k < many; k++) {
            x.mark(0, 8, 23, 9);
        }
    }

    // 25: "No SEEN ones (0), NOTES (1), MARKS (2): how many there were. BAD."
    private static void forgetNoneAndAll() {
        for (int what = 0; what < 3; what++) {
            Edge.asked("25: there were none", Edge.told(TWO), 0, "forget", what);
            StairManners x = Edge.taken("25: there were six", Edge::limits, 6, "forget", what);
            for (int other = 0; other < 3; other++) {
                Due.is("37: of " + other + " behind forget(" + what + ")", x.count(5 + other), other == what ? 0 : 6);
            }
            Due.is("25: what may be undone stays", x.count(8), 8);
            Due.is("25: again", x.forget(what), 0);
        }
        Edge.bad("25: BAD", Edge::limits, -2, "forget", 3);
        Edge.bad("25: BAD", Edge::limits, -2, "forget", -1);
    }

    private static Consumer<StairManners> noted(int... rows) {
        return x -> {
            for (int k = 0; k + 2 < rows.length; k += 3) {
                x.note(7, rows[k], rows[k + 1], rows[k + 2]);
            }
        };
    }

    private static void isAndLook(int is, int look, int... rows) {
        Edge.asked("26: IS", noted(rows), is, "is", 7);
        Edge.asked("27: LOOK", noted(rows), look, "look", 7);
        Edge.asked("26: of another STEP", noted(rows), 63, "is", 0);
        Edge.asked("27: of another STEP", noted(rows), 8, "look", 0);
    }

    // "IS: KINDS (bits) of STEPS by which all NOTES of one are so."
    private static void isOfAllAndOfNoKind() {
        isAndLook(63, 8);
        isAndLook(16, 1, 5, 0, 0);
        isAndLook(0, -1, 6, 0, 0);
        isAndLook(32, 1, 8, 0, 5);
        isAndLook(0, -1, 7, 0, 5);
        isAndLook(4, 1, 12, 0, 4);
        isAndLook(0, -1, 11, 0, 4);
        isAndLook(8, 1, 1, 23, 4);
        isAndLook(0, -1, 1, 22, 4);
        isAndLook(0, -1, 1, 0, 9);
        isAndLook(0, -1, 12, 23, 6);
        isAndLook(0, -1, 1, 0, 1, 1, 0, 2);
    }

    // LOOK: "none: no KIND"; of one KIND all are alike, so the least of all.
    private static void lookOfOneKindAndOfNone() {
        isAndLook(1, 1, 1, 0, 1, 4, 0, 1);
        isAndLook(2, 1, 1, 0, 2, 4, 1, 2);
        isAndLook(4, 1, 1, 0, 1, 4, 0, 2);
        isAndLook(8, 1, 1, 0, 2, 1, 1, 4);
        isAndLook(32, 1, 1, 0, 2, 4, 0, 4);
        Edge.asked("27: the KIND that it has is not looked at", Edge.told("house 0 0 0 0 0 0 0 5;"), 8, "look", 7);
        Edge.bad("27: BAD", noted(6, 0, 0), -2, "look", 8);
        Edge.bad("26: BAD", noted(6, 0, 0), -2, "is", -1);
    }

    // "by which the most of these KINDS that want alike are fewest; of like ones the least"
    private static void lookOfLikeOnesTheLeast() {
        isAndLook(1 + 4, 4, 1, 0, 1);
        isAndLook(2 + 4, 1, 4, 0, 2, 4, 1, 2);
        isAndLook(2 + 8, 101, 1, 0, 2, 4, 0, 2);
        isAndLook(4 + 8, 1, 4, 0, 2, 12, 1, 4);
        isAndLook(2 + 4 + 8, 101, 4, 0, 2);
        isAndLook(1 + 16, 1, 6, 0, 1);
        isAndLook(2 + 32, 4, 1, 0, 2, 1, 1, 2);
        isAndLook(8 + 32, 4, 1, 0, 2, 4, 1, 4);
        isAndLook(2 + 8 + 32, 108, 1, 0, 2);
    }

    private static Consumer<StairManners> marked(int... rows) {
        return Edge.told(TWO).andThen(x -> {
            for (int k = 0; k + 2 < rows.length; k += 3) {
                x.mark(1, rows[k], rows[k + 1], rows[k + 2]);
            }
        });
    }

    private static void kindsAndAsk(int kinds, int ask, int... rows) {
        Edge.asked("28: WHAT", marked(rows), kinds, "kinds", 1);
        Edge.asked("29: ASK", marked(rows), ask, "ask", 1);
        Edge.asked("28: of another", marked(rows), 63, "kinds", 0);
        Edge.asked("29: of another", marked(rows), 180, "ask", 0);
    }

    // "WHAT: KINDS of PEOPLE (bits) by which all MARKS of one are so."
    private static void kindsOfAllAndOfNone() {
        kindsAndAsk(63, 180);
        kindsAndAsk(32, 0, 8, 18, 4);
        kindsAndAsk(0, -1, 8, 17, 4);
        kindsAndAsk(0, -1, 0, 0, 9);
        kindsAndAsk(4, 0, -1, 23, 0);
        kindsAndAsk(16, 0, -1, 0, 0);
        kindsAndAsk(0, -1, -1, 1, 0);
        kindsAndAsk(0, -1, 0, 23, 3);
    }

    // ASK: "none: no KIND"; of one KIND all are alike, so the least of all.
    private static void askOfOneKindAndOfNone() {
        kindsAndAsk(1, 0, -1, 0, 1, 0, 18, 1);
        kindsAndAsk(2, 0, -1, 0, 2, -1, 18, 2);
        kindsAndAsk(8, 0, -1, 0, 1, 0, 0, 2);
        Edge.asked("29: the KIND that one has is not looked at", Edge.told(PLAIN + "one 5 1;"), 180, "ask", 0);
        Edge.bad("28: BAD", marked(0, 0, 9), -2, "kinds", 2);
        Edge.bad("29: BAD", marked(0, 0, 9), -2, "ask", -1);
    }

    // "10 t and 1 more than p .. by which the most of these KINDS that are worth alike are fewest; of like ones the least"
    private static void askOfLikeOnesTheLeast() {
        kindsAndAsk(1 + 4, 180, -1, 0, 1, 0, 0, 1);
        kindsAndAsk(1 + 8, 1, -1, 0, 1, -1, 18, 1);
        kindsAndAsk(2 + 8, 0, 0, 0, 2, 0, 18, 2);
        kindsAndAsk(1 + 4 + 8, 181, -1, 0, 1);
        kindsAndAsk(1 + 16, 0, -1, 1, 1, 0, 19, 1);
        kindsAndAsk(1 + 4 + 16, 0, -1, 1, 1, 0, 1, 1);
        kindsAndAsk(1 + 8 + 16, 1, -1, 1, 1, -1, 19, 1);
        kindsAndAsk(1 + 4 + 8 + 16, 1, -1, 1, 1);
        kindsAndAsk(2 + 32, 180, -1, 0, 2);
        kindsAndAsk(2 + 8 + 32, 180, 0, 0, 2);
    }

    /** Two hosts of kinds told, at a step that wants 0 .. 5 of the third one: the pairs that rest. */
    private static void pairs(int a, int b, int minute, int... rests) {
        int[] kind = {4, 0, 1, 2, 2, 5};
        int[] weight = {5, 12, 12, 8, 12, 12};
        for (int wants = 0; wants <= 5; wants++) {
            Consumer<StairManners> ahead = Edge.told("house " + kind[wants] + " 0 0 0 0 0 0 0;one 0 " + weight[wants]
                + ";one " + a + " 1;one " + b + " 1;knows 1 0;knows 2 0;", minute);
            int rest = rests[wants];
            int other = rest & 9 | (rest & 2) << 1 | (rest & 4) >> 1;
            Edge.asked("30: wanted is " + wants, ahead, rest, "hosts", 1, 2, 0, 0);
            Edge.asked("30: told the other way, wanted is " + wants, ahead, other, "hosts", 2, 1, 0, 0);
        }
    }

    // "to each 4, if c could be INTRODUCED so, less 1 and what its own word is worth, if it speaks: pairs that rest"
    private static void hostsByWhatIsWanted() {
        pairs(0, 0, 0, 1, 6, 9, 1, 1, 1);
        pairs(1, 1, 0, 1, 6, 6, 9, 9, 1);
        pairs(0, 1, 0, 1, 6, 4, 9, 1, 1);
        pairs(4, 0, 0, 1, 4, 1, 1, 1, 1);
        pairs(4, 0, 1, 1, 6, 9, 1, 1, 1);
        pairs(5, 5, 18, 1, 1, 1, 1, 1, 1);
        pairs(5, 5, 17 * 2, 1, 6, 6, 9, 9, 1);
        pairs(5, 1, 18, 1, 4, 4, 1, 1, 1);
        pairs(2, 1, 18, 1, 4, 4, 1, 1, 1);
        pairs(2, 2, 18, 1, 1, 1, 1, 1, 1);
    }

    // 30: "NO" ("a, b who KNOW a STEP (NO: one does not)"), behind BAD
    private static void hostsWhoDoNotKnow() {
        String three = PLAIN + "one 0 1;one 0 1;one 0 1;";
        Edge.asked("30: both KNOW it", Edge.told(three + "knows 0 7;knows 1 7;"), 6, "hosts", 0, 1, 2, 7);
        Edge.no("30: a does not", Edge.told(three + "knows 1 7;"), "hosts", 0, 1, 2, 7);
        Edge.no("30: b does not", Edge.told(three + "knows 0 7;"), "hosts", 0, 1, 2, 7);
        Edge.no("30: neither does", Edge.told(three), "hosts", 0, 1, 2, 7);
        Edge.no("30: the third one alone does", Edge.told(three + "knows 2 7;"), "hosts", 0, 1, 2, 7);
        Edge.no("30: they KNOW another", Edge.told(three + "knows 0 0;knows 1 0;"), "hosts", 0, 1, 2, 7);
        Edge.bad("30: BAD ahead of NO", Edge.told(three), -2, "hosts", 0, 0, 2, 7);
        Edge.bad("30: BAD ahead of NO", Edge.told(three), -2, "hosts", 0, 1, 1, 7);
        Edge.bad("30: BAD ahead of NO", Edge.told(three), -2, "hosts", 0, 1, 3, 7);
        Edge.bad("30: BAD ahead of NO", Edge.told(three), -2, "hosts", 0, 1, 2, 8);
    }

    // "nobody else": a fourth one who KNOWS it says nothing; nor does c, who, if it KNOWS it, could in any case.
    private static void hostsAndNobodyElse() {
        String four = "house 1 0 0 0 0 0 0 0;one 0 1;one 0 1;one 0 1;one 1 1;knows 0 0;knows 1 0;";
        Edge.asked("30: both or neither", Edge.told(four), 9, "hosts", 0, 1, 2, 0);
        Edge.asked("30: a butler KNOWS it, too", Edge.told(four + "knows 3 0;"), 9, "hosts", 0, 1, 2, 0);
        Edge.asked("30: c KNOWS it", Edge.told(four + "knows 2 0;"), 1, "hosts", 0, 1, 2, 0);
    }

    private static void slips(Consumer<StairManners> ahead, int i, int s, int o, long above, long below) {
        StairManners x = Edge.taken("31: o is " + o, ahead, 1, "slips", i, s, o);
        Due.is("33: above, o is " + o, x.part(0), above);
        Due.is("33: below, o is " + o, x.part(1), below);
    }

    /** One of weight 12 and five guests who KNOW step 0. */
    private static Consumer<StairManners> fiveFor(int kind) {
        return Edge.told("house" + kind + " 0 0 0 0 0 0 0;one0 12;one0 1;one0 1;one0 1;one0 1;one0 1;"
            + "knows1 0;knows2 0;knows3 0;knows4 0;knows5 0;");
    }

    // "by o of 10 (0 .. 10) each other one who KNOWS a STEP, apart, says nothing"
    private static void slipsOfNoneAndOfTen() {
        for (int kind = 0; kind < 6; kind++) {
            slips(fiveFor(kind), 0, 0, 0, 1, 1);
            slips(fiveFor(kind), 0, 0, 10, 0, 1);
        }
        Consumer<StairManners> gentle = Edge.told("house4 0 0 0 0 0 0 0;one0 5;one0 1;knows1 0;");
        slips(gentle, 0, 0, 0, 1, 1);
        slips(gentle, 0, 0, 10, 1, 1);
        Consumer<StairManners> one = Edge.told("house0 0 0 0 0 0 0 0;one0 5;one0 1;knows1 0;");
        slips(one, 0, 0, 1, 9, 10);
        slips(one, 0, 0, 9, 1, 10);
        slips(one, 0, 0, 5, 1, 2);
    }

    // "THE FRACTION .. lowest terms, below above 0"
    private static void slipsLowestTerms() {
        slips(fiveFor(5), 0, 0, 1, 59049, 100000);
        slips(fiveFor(5), 0, 0, 2, 1024, 3125);
        slips(fiveFor(5), 0, 0, 5, 1, 32);
        slips(fiveFor(5), 0, 0, 8, 1, 3125);
        slips(fiveFor(5), 0, 0, 9, 1, 100000);
        slips(fiveFor(0), 0, 0, 9, 40951, 100000);
        slips(fiveFor(0), 0, 0, 1, 99999, 100000);
        slips(fiveFor(2), 0, 0, 5, 3, 16);
        slips(fiveFor(1), 0, 0, 5, 13, 16);
    }

    // Nobody else KNOWS it; one who KNOWS it already could in any case; a word of 0 is nothing.
    private static void slipsOfNobodyElse() {
        slips(Edge.told(TWO), 0, 7, 0, 0, 1);
        slips(Edge.told(TWO), 0, 7, 10, 0, 1);
        slips(Edge.told(TWO + "knows 0 7;"), 0, 7, 10, 1, 1);
        slips(Edge.told(TWO + "knows 0 7;knows 1 7;"), 0, 7, 5, 1, 1);
        slips(Edge.told(TWO + "knows 1 6;"), 0, 7, 0, 0, 1);
        String child = PLAIN + "one 0 1;one 2 1;one 0 1;knows 1 7;";
        slips(Edge.told(child, 17), 0, 7, 3, 7, 10);
        slips(Edge.told(child, 18), 0, 7, 3, 0, 1);
        slips(Edge.told(child + "knows 2 7;", 18), 0, 7, 3, 7, 10);
        slips(Edge.told(child + "knows 2 7;", 17), 0, 7, 3, 91, 100);
    }

    private static void slipsRefused() {
        Consumer<StairManners> ahead = Edge.told(TWO + "knows 1 0;").andThen(x -> x.slips(0, 0, 3));
        Edge.bad("31: THE FRACTION stays", ahead, -2, "slips", 0, 0, 11);
        Edge.bad("31: THE FRACTION stays", ahead, -2, "slips", 0, 0, -1);
        Edge.bad("31: THE FRACTION stays", ahead, -2, "slips", 2, 0, 0);
        Edge.bad("31: THE FRACTION stays", ahead, -2, "slips", 0, 8, 0);
        StairManners x = Edge.taken("31", ahead, 1, "slips", 0, 0, 3);
        Due.is("31: nothing but THE FRACTION is changed", x.count(1) + x.count(8), 0);
        Due.is("31: nobody KNOWS more", x.count(2), 1);
    }

    // "n (0 .. 60) MINUTES"; "SEED (0 .. 999999)"
    private static void eveningsOfNoMinute() {
        Consumer<StairManners> ahead = Edge.told("house 4 4 4 4 4 4 4 4;one 0 5;one 0 1;knows 0 0;knows 1 7;carpet 0;carpet 1;");
        for (int seed : new int[] {0, 1, 999999}) {
            Edge.asked("32: no MINUTE", ahead, 2, "evenings", seed, 0);
        }
        Edge.asked("32: 0", ahead, 3, "evenings", 0, 1);
        Edge.bad("32: BAD", ahead, -2, "evenings", 1000000, 0);
        Edge.bad("32: BAD", ahead, -2, "evenings", -1, 0);
        Edge.bad("32: BAD", ahead, -2, "evenings", 0, 61);
        Edge.bad("32: BAD", ahead, -2, "evenings", 999999, -1);
    }

    // "the one X by 65536 (cut), by 6 left over .., is INTRODUCED to STEP X by 1048576 (cut), by 8 left over"
    private static void eveningsFirstAndLastOne() {
        // Behind them: X a whole number of times 1048576, 1 less than one, the least and the greatest X of all seeds.
        int[][] draws = {{0, 0, 0}, {9, 0, 7}, {31, 5, 0}, {18, 5, 7}, {999999, 4, 6}, {999998, 2, 2}, {3, 5, 5}, {123456, 1, 3},
            {501379, 0, 5}, {899870, 3, 0}, {388515, 0, 0}, {518020, 1, 7}, {241, 4, 3}, {959, 3, 5}};
        for (int[] d : draws) {
            for (int people = 0; people <= 6; people++) {
                for (int s = 0; s < 8; s++) {
                    int many = people;
                    int gentle = s;
                    StairManners x = new StairManners();
                    x.step(gentle, 4);
                    for (int i = 0; i < many; i++) {
                        x.one(0, 5);
                    }
                    int due = d[1] < people && d[2] == s ? 1 : 0;
                    Due.is("32: seed " + d[0] + ", " + people + " people, GENTLE is " + s, x.evenings(d[0], 1), due);
                }
            }
        }
    }

    private static void sixOfFive(StairManners x) {
        for (int i = 0; i < 6; i++) {
            x.one(0, 5);
        }
        for (int s = 0; s < 8; s++) {
            x.step(s, 4);
        }
    }

    // All are INTRODUCED to what comes: so many of 48 behind n.
    private static void eveningsOfSixty() {
        int[] n = {0, 1, 2, 8, 9, 30, 59, 60};
        int[][] due = {{0, 0, 1, 2, 7, 8, 22, 36, 37}, {1, 0, 1, 2, 8, 9, 21, 33, 34}, {7, 0, 1, 2, 8, 9, 23, 31, 32},
            {999998, 0, 1, 2, 7, 8, 23, 32, 32}, {999999, 0, 1, 2, 7, 8, 24, 38, 38}};
        for (int[] d : due) {
            for (int k = 0; k < n.length; k++) {
                Edge.asked("32: of 48", EdgesOfKnowingTest::sixOfFive, d[k + 1], "evenings", d[0], n[k]);
            }
        }
    }

    // "(not there: nobody)": a MINUTE goes by all the same.
    private static void eveningsOfNobody() {
        Edge.asked("32: nobody is there", Edge::nothing, 0, "evenings", 0, 60);
        Consumer<StairManners> five = Edge.told("house 4 4 0 0 0 0 0 0;one0 5;one0 5;one0 5;one0 5;one0 5;knows 0 0;carpet 0;carpet 1;");
        Edge.asked("32: the 6th is not there", five, 2, "evenings", 31, 1);
        Edge.asked("32: the 5th is", five, 4, "evenings", 22, 1);
        // Seed 0 has one 0 at STEPS 0, 5; one 4 at STEP 0; one 1 at STEP 6. A child's word is worth 0 from MINUTE 18 on.
        String child = "house 4 0 0 0 0 0 0 0;one 0 5;one 2 5;knows 1 5;";
        Edge.asked("32: STEP 5 in MINUTE 17", Edge.told(child, 16), 3, "evenings", 0, 2);
        Edge.asked("32: STEP 5 in MINUTE 18", Edge.told(child, 17), 2, "evenings", 0, 2);
        Edge.asked("32: STEP 5 in MINUTE 23", Edge.told(child, 22), 2, "evenings", 0, 2);
        Edge.asked("32: STEP 5 in MINUTE 24", Edge.told(child, 23), 3, "evenings", 0, 2);
    }

    // "(with CARPETS as a MINUTE has them)"
    private static void eveningsWithCarpets() {
        String text = "house 4 0 0 0 0 0 0 0;one 0 5;";
        Edge.asked("32: no CARPET", Edge.told(text), 1, "evenings", 0, 1);
        Edge.asked("32: told on in the same MINUTE", Edge.told(text + "carpet 0;carpet 1;"), 2, "evenings", 0, 1);
        Edge.asked("32: and in the next", Edge.told(text + "carpet 0;carpet 1;"), 3, "evenings", 0, 2);
        Edge.asked("32: to the last STEP", Edge.told(text + "carpet 0;carpet 1;carpet 2;carpet 3;carpet 4;carpet 5;carpet 6;"), 8, "evenings", 0, 60);
        Edge.asked("32: not to a MARBLE one", Edge.told("house 4 5 0 0 0 0 0 0;one 0 5;carpet 0;"), 1, "evenings", 0, 1);
    }
}
