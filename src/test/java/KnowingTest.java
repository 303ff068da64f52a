/** Promises 21 to 32: what one may know. */
public final class KnowingTest {
    private static final String PLAIN = "house 0 0 0 0 0 0 0 0;";

    public static void main(String[] args) {
        seen();
        may();
        note();
        mark();
        forget();
        is();
        look();
        kinds();
        ask();
        hosts();
        hostsByBearing();
        hostsRefused();
        slips();
        slipsLowestTerms();
        evenings();
        eveningsLeaveAll();
        Due.finish();
    }

    // Promise 21
    private static void seen() {
        StairManners x = Due.house(PLAIN + "one 0 1;one 0 1;");
        int[][] wrong = {{-1, 0, 0}, {2, 0, 0}, {0, -1, 0}, {0, 8, 0}, {0, 0, -1}, {0, 0, 2}};
        for (int[] w : wrong) {
            Due.is("21: seen(" + w[0] + ", " + w[1] + ", " + w[2] + ")", x.seen(w[0], w[1], w[2]), -2);
        }
        for (int k = 1; k <= 6; k++) {
            Due.is("21: seen", x.seen(k % 2, k, k % 2), k);
        }
        Due.is("21: a 7th", x.seen(0, 0, 0), -4);
        Due.is("21: a 7th that is BAD", x.seen(0, 8, 0), -2);
        Due.is("21: BAD ones are counted", x.status(0), wrong.length + 1);
        Due.is("21: FULL is counted", x.status(2), 1);
        Due.is("21: none to undo", x.count(8), 0);
        Due.is("21: SEEN", x.count(5), 6);
    }

    // Promise 22
    private static void mayBe(StairManners x, int i, int sets, int inAll, int inSome) {
        Due.is("22: how many sets", x.may(i, 0), sets);
        Due.is("22: in all", x.may(i, 1), inAll);
        Due.is("22: in some", x.may(i, 2), inSome);
    }

    private static void may() {
        StairManners x = Due.house(PLAIN + "one 0 1;one 0 1;knows 0 5;");
        mayBe(x, 0, 256, 0, 255);
        x.seen(0, 2, 0);
        mayBe(x, 0, 32, 7, 255);
        mayBe(x, 1, 256, 0, 255);
        x.seen(0, 4, 1);
        mayBe(x, 0, 8, 15, 255 - 16);
        x.seen(0, 4, 1);
        mayBe(x, 0, 8, 15, 255 - 16);
        x.seen(1, 7, 1);
        mayBe(x, 1, 1, 127, 127);
        x.seen(0, 4, 0);
        mayBe(x, 0, 0, -1, 0);
        x.forget(0);
        x.seen(0, 7, 0);
        mayBe(x, 0, 1, 255, 255);
        x.seen(0, 0, 0);
        mayBe(x, 0, 1, 255, 255);
        x.seen(1, 0, 1);
        mayBe(x, 1, 128, 0, 254);
        int[][] wrong = {{-1, 0}, {2, 0}, {0, -1}, {0, 3}};
        for (int[] w : wrong) {
            Due.is("22: may(" + w[0] + ", " + w[1] + ")", x.may(w[0], w[1]), -2);
        }
        Due.is("22: counted as BAD", x.status(0), wrong.length);
    }

    // Promise 23
    private static void note() {
        StairManners x = new StairManners();
        int[][] wrong = {{-1, 1, 0, 0}, {8, 1, 0, 0}, {0, 0, 0, 0}, {0, 13, 0, 0}, {0, 1, -1, 0}, {0, 1, 24, 0}, {0, 1, 0, -1}, {0, 1, 0, 10}};
        for (int[] w : wrong) {
            Due.is("23: note of what is BAD", x.note(w[0], w[1], w[2], w[3]), -2);
        }
        int[][] right = {{0, 1, 0, 0}, {7, 12, 23, 9}, {7, 12, 23, 9}, {3, 5, 18, 4}, {1, 1, 1, 1}, {2, 2, 2, 2}};
        for (int k = 0; k < 6; k++) {
            Due.is("23: note", x.note(right[k][0], right[k][1], right[k][2], right[k][3]), k + 1);
        }
        Due.is("23: a 7th", x.note(0, 1, 0, 0), -4);
        Due.is("23: a 7th that is BAD", x.note(0, 1, 0, 10), -2);
        Due.is("23: FULL is counted", x.status(2), 1);
        Due.is("23: NOTES", x.count(6), 6);
    }

    // Promise 24
    private static void mark() {
        StairManners x = Due.house(PLAIN + "one 0 1;one 0 1;");
        int[][] wrong = {{-1, 0, 0, 0}, {2, 0, 0, 0}, {0, -2, 0, 0}, {0, 9, 0, 0}, {0, 0, -1, 0}, {0, 0, 24, 0}, {0, 0, 0, -1}, {0, 0, 0, 10}};
        for (int[] w : wrong) {
            Due.is("24: mark of what is BAD", x.mark(w[0], w[1], w[2], w[3]), -2);
        }
        int[][] right = {{0, -1, 0, 0}, {1, 8, 23, 9}, {1, 8, 23, 9}, {0, 5, 18, 4}, {1, 1, 1, 1}, {0, 2, 2, 2}};
        for (int k = 0; k < 6; k++) {
            Due.is("24: mark", x.mark(right[k][0], right[k][1], right[k][2], right[k][3]), k + 1);
        }
        Due.is("24: a 7th", x.mark(0, 0, 0, 0), -4);
        Due.is("24: a 7th that is BAD", x.mark(2, 0, 0, 0), -2);
        Due.is("24: FULL is counted", x.status(2), 1);
        Due.is("24: MARKS", x.count(7), 6);
    }

    // Promise 25
    private static void forget() {
        StairManners x = Due.house(PLAIN + "one 0 1;");
        x.seen(0, 0, 0);
        x.note(0, 1, 0, 9);
        x.note(1, 1, 0, 9);
        x.mark(0, 0, 0, 9);
        x.mark(0, 0, 0, 9);
        x.mark(0, 0, 0, 9);
        Due.is("25: forget(-1)", x.forget(-1), -2);
        Due.is("25: forget(3)", x.forget(3), -2);
        Due.is("25: counted as BAD", x.status(0), 2);
        Due.is("25: SEEN ones", x.forget(0), 1);
        Due.is("25: NOTES are there still", x.count(6), 2);
        Due.is("25: NOTES", x.forget(1), 2);
        Due.is("25: MARKS are there still", x.count(7), 3);
        Due.is("25: MARKS", x.forget(2), 3);
        for (int what = 0; what < 3; what++) {
            Due.is("25: none are left", x.forget(what), 0);
            Due.is("25: none are counted", x.count(5 + what), 0);
        }
        Due.is("25: all may be again", x.may(0, 0), 256);
        Due.is("25: all kinds again", x.is(0), 63);
        Due.is("25: all kinds again", x.kinds(0), 63);
        Due.is("25: room for a new one", x.note(0, 6, 0, 1), 1);
        Due.is("25: the old ones do not come back", x.is(0), 1 + 16);
    }

    // Promise 26
    private static void is() {
        StairManners x = Due.house("house 5 5 5 5 5 5 5 5;");
        Due.is("26: no NOTES", x.is(7), 63);
        x.note(7, 8, 1, 2);
        Due.is("26: 2 of weight 8 in an odd minute: proud", x.is(7), 2);
        Due.is("26: of another step nothing is noted", x.is(6), 63);
        x.forget(1);
        x.note(0, 4, 0, 2);
        Due.is("26: 2 of weight 4 in an even minute", x.is(0), 2 + 4 + 8);
        x.note(0, 3, 3, 2);
        Due.is("26: and of 3 in an odd one: proud; creaky wants 1", x.is(0), 2);
        x.note(0, 3, 3, 4);
        Due.is("26: no kind", x.is(0), 0);
        x.forget(1);
        x.note(2, 12, 0, 5);
        Due.is("26: marble, 5 at most", x.is(2), 32);
        x.forget(1);
        x.note(2, 12, 0, 4);
        Due.is("26: creaky", x.is(2), 4);
        x.forget(1);
        x.note(2, 5, 0, 0);
        Due.is("26: gentle", x.is(2), 16);
        x.forget(1);
        x.note(2, 6, 0, 0);
        Due.is("26: not of 6", x.is(2), 0);
        x.forget(1);
        x.note(2, 3, 23, 4);
        Due.is("26: a seventh in minute 23", x.is(2), 8);
        Due.is("26: is(-1)", x.is(-1), -2);
        Due.is("26: is(8)", x.is(8), -2);
        Due.is("26: counted as BAD", x.status(0), 2);
    }

    // Promise 27
    private static void look() {
        StairManners x = new StairManners();
        Due.is("27: all kinds: at weight 8 two alike", x.look(0), 8);
        x.note(0, 5, 0, 0);
        Due.is("27: one kind: the least", x.look(0), 1);
        Due.is("27: another step", x.look(1), 8);
        x.note(0, 5, 0, 1);
        Due.is("27: no kind", x.look(0), -1);
        x.forget(1);
        x.note(0, 4, 0, 2);
        Due.is("27: proud, creaky, a seventh: apart in minute 1", x.look(0), 101);
        x.forget(1);
        x.note(0, 1, 0, 2);
        Due.is("27: proud, a seventh, marble: apart in minute 1, weight 8", x.look(0), 108);
        x.forget(1);
        x.note(0, 6, 0, 1);
        Due.is("27: plain or gentle", x.is(0), 17);
        Due.is("27: apart at weight 1", x.look(0), 1);
        x.forget(1);
        x.note(0, 7, 0, 2);
        Due.is("27: proud, creaky, a seventh", x.look(0), 101);
        x.note(0, 8, 0, 2);
        Due.is("27: proud or a seventh", x.is(0), 10);
        Due.is("27: apart in minute 1", x.look(0), 101);
        Due.is("27: look(-1)", x.look(-1), -2);
        Due.is("27: look(8)", x.look(8), -2);
        Due.is("27: counted as BAD", x.status(0), 2);
    }

    // Promise 28
    private static void kinds() {
        StairManners x = Due.house(PLAIN + "one 0 1;one 0 1;");
        Due.is("28: no MARKS", x.kinds(0), 63);
        int[][] due = {{-1, 0, 1, 13}, {-1, 0, 2, 34}, {-1, 0, 0, 16}, {0, 0, 2, 2 + 8 + 32}, {0, 1, 1, 1 + 4 + 16},
            {8, 17, 1, 1 + 4 + 16}, {8, 18, 0, 4 + 16}, {8, 19, 0, 4}, {8, 23, 4, 32}, {3, 3, 9, 0}, {-1, 23, 1, 1 + 8 + 16}};
        for (int[] d : due) {
            x.forget(2);
            x.mark(0, d[0], d[1], d[2]);
            Due.is("28: worth " + d[2] + " from " + d[0] + " in minute " + d[1], x.kinds(0), d[3]);
            Due.is("28: of another nothing is marked", x.kinds(1), 63);
        }
        x.forget(2);
        x.mark(0, -1, 0, 1);
        x.mark(0, 0, 0, 1);
        Due.is("28: all MARKS: a guest or a child", x.kinds(0), 5);
        Due.is("28: kinds(-1)", x.kinds(-1), -2);
        Due.is("28: kinds(2)", x.kinds(2), -2);
        Due.is("28: counted as BAD", x.status(0), 2);
    }

    // Promise 29
    private static void ask() {
        StairManners x = Due.house(PLAIN + "one 0 1;one 0 1;");
        Due.is("29: all kinds", x.ask(0), 180);
        x.mark(0, -1, 0, 1);
        Due.is("29: guest, child, heir: from step 0 at 18", x.ask(0), 181);
        Due.is("29: of another nothing is marked", x.ask(1), 180);
        x.mark(0, 0, 0, 1);
        Due.is("29: guest or child: from the hall at 18", x.ask(0), 180);
        x.mark(0, 0, 18, 1);
        Due.is("29: a guest: the least", x.ask(0), 0);
        x.mark(0, 0, 18, 2);
        Due.is("29: no kind", x.ask(0), -1);
        x.mark(1, 0, 0, 2);
        Due.is("29: butler, heir, widow: heir and butler apart in the hall", x.ask(1), 180);
        x.mark(1, 0, 23, 2);
        Due.is("29: butler or heir: from the hall in minute 0", x.ask(1), 0);
        Due.is("29: ask(-1)", x.ask(-1), -2);
        Due.is("29: ask(2)", x.ask(2), -2);
        Due.is("29: counted as BAD", x.status(0), 2);
    }

    // Promise 30
    private static void hosts() {
        String all = "one 0 1;one 1 1;one 4 12;knows 0 0;knows 1 0;";
        Due.is("30: wants 1: one speaks, the other need not", Due.house(PLAIN + all).hosts(0, 1, 2, 0), 2 + 4);
        Due.is("30: the butler told first", Due.house(PLAIN + all).hosts(1, 0, 2, 0), 2 + 4);
        // Proud wants 2: the butler alone, or nobody (the guest would lose, the butler would win 4 less 3).
        Due.is("30: wants 2", Due.house("house 1 0 0 0 0 0 0 0;" + all).hosts(0, 1, 2, 0), 4);
        Due.is("30: wants 2, told the other way", Due.house("house 1 0 0 0 0 0 0 0;" + all).hosts(1, 0, 2, 0), 2);
        // A weight of 8 and a creaky one: wants 3, both or neither.
        String eight = "one 0 1;one 1 1;one 4 8;knows 0 0;knows 1 0;";
        Due.is("30: wants 3", Due.house("house 2 0 0 0 0 0 0 0;" + eight).hosts(0, 1, 2, 0), 1 + 8);
        // A weight of 12: wants 4, more than both words.
        Due.is("30: wants 4", Due.house("house 2 0 0 0 0 0 0 0;" + all).hosts(0, 1, 2, 0), 1);
        // A gentle one wants nothing of 5.
        Due.is("30: wants 0", Due.house("house 4 0 0 0 0 0 0 0;one 0 1;one 1 1;one 4 5;knows 0 0;knows 1 0;").hosts(0, 1, 2, 0), 1);
        Due.is("30: the third knows it", Due.house(PLAIN + all + "knows 2 0;").hosts(0, 1, 2, 0), 1);
    }

    private static void hostsByBearing() {
        // A widow from 18 on is worth 4: to speak costs 5, so she never does.
        StairManners x = Due.house(PLAIN + "one 5 1;one 5 1;one 0 1;one 1 1;knows 0 0;knows 1 0;knows 3 0;minutes 18;");
        Due.is("30: to speak costs more than it brings", x.hosts(0, 1, 2, 0), 1);
        Due.is("30: but the butler gains by it", x.hosts(0, 3, 2, 0), 4);
        Due.is("30: nothing is changed", x.about(0, 1), 11);
        // Widows of a day and burglars: 2 and 0 in an even minute; a burglar's word costs 1 still.
        x = Due.house("house 1 0 0 0 0 0 0 0;one 5 1;one 4 1;one 0 1;knows 0 0;knows 1 0;");
        Due.is("30: a burglar in an even minute", x.hosts(0, 1, 2, 0), 2);
        // An heir in the hall is worth 1, so proud wants both of two heirs; gains 4 less 2.
        x = Due.house("house 1 0 0 0 0 0 0 0;one 3 1;one 3 1;one 0 1;one 1 1;knows 0 0;knows 1 0;knows 3 0;");
        Due.is("30: two heirs in the hall", x.hosts(0, 1, 2, 0), 1 + 8);
        Due.is("30: nobody else speaks", x.asks(2, 0, 1), 4);
        x.goes(0, 1);
        Due.is("30: an heir on a step is enough alone", x.hosts(0, 1, 2, 0), 2);
        // Gain and cost alike: an heir on a step and a widow at 18 rest either way only where none gets more.
        x = Due.house("house 0 0 3 0 0 0 0 0;one 1 1;one 1 1;one 0 1;knows 0 2;knows 1 2;");
        Due.is("30: a seventh in an even minute", x.hosts(0, 1, 2, 2), 2 + 4);
        x.waits(1);
        Due.is("30: a seventh in an odd minute", x.hosts(0, 1, 2, 2), 1 + 8);
    }

    private static void hostsRefused() {
        StairManners x = Due.house(PLAIN + "one 0 1;one 0 1;one 0 1;knows 0 0;knows 1 1;");
        int[][] wrong = {{-1, 1, 2, 0}, {0, 3, 2, 0}, {0, 1, 3, 0}, {0, 1, -1, 0}, {0, 1, 2, -1}, {0, 1, 2, 8},
            {0, 0, 2, 0}, {0, 1, 0, 0}, {0, 1, 1, 0}, {2, 2, 2, 0}};
        for (int[] w : wrong) {
            Due.is("30: hosts of what is BAD", x.hosts(w[0], w[1], w[2], w[3]), -2);
        }
        Due.is("30: the second does not know it", x.hosts(0, 1, 2, 0), -3);
        Due.is("30: the first does not know it", x.hosts(0, 1, 2, 1), -3);
        Due.is("30: neither knows it", x.hosts(0, 1, 2, 2), -3);
        Due.is("30: counted as BAD", x.status(0), wrong.length);
        Due.is("30: counted as NO", x.status(1), 3);
    }

    private static void slipsBe(StairManners x, int i, int s, int o, long above, long below) {
        Due.is("31: slips(" + i + ", " + s + ", " + o + ")", x.slips(i, s, o), 1);
        Due.is("31: above", x.part(0), above);
        Due.is("31: below", x.part(1), below);
    }

    // Promise 31
    private static void slips() {
        StairManners x = Due.house("house 0 1 0 0 0 0 0 0;one 0 1;one 0 1;one 0 1;one 1 1;one 0 1;"
            + "knows 0 0;knows 1 0;knows 2 0;knows 0 1;knows 1 1;knows 3 1;");
        slipsBe(x, 4, 0, 3, 973, 1000);
        slipsBe(x, 0, 0, 3, 1, 1);
        slipsBe(x, 4, 0, 0, 1, 1);
        slipsBe(x, 4, 0, 10, 0, 1);
        slipsBe(x, 4, 2, 0, 0, 1);
        // Proud wants 2: the butler speaks (7 of 10), or both guests do: 0.7 + 0.3 * 0.49.
        slipsBe(x, 4, 1, 3, 847, 1000);
        slipsBe(x, 4, 1, 5, 5, 8);
        // One who knows it could in any case.
        slipsBe(x, 3, 1, 10, 1, 1);
        Due.is("31: nothing is changed", x.count(1) + x.count(8), 0);
        int[][] wrong = {{-1, 0, 0}, {5, 0, 0}, {0, -1, 0}, {0, 8, 0}, {0, 0, -1}, {0, 0, 11}};
        slipsBe(x, 4, 1, 3, 847, 1000);
        for (int[] w : wrong) {
            Due.is("31: slips of what is BAD", x.slips(w[0], w[1], w[2]), -2);
        }
        Due.is("31: THE FRACTION stays", x.part(0), 847);
        Due.is("31: counted as BAD", x.status(0), wrong.length);
    }

    private static void slipsLowestTerms() {
        StairManners x = Due.house("house 5 0 0 0 0 0 0 0;one 0 12;one 0 1;one 0 1;one 0 1;one 0 1;one 0 1;"
            + "knows 1 0;knows 2 0;knows 3 0;knows 4 0;knows 5 0;");
        slipsBe(x, 0, 0, 1, 59049, 100000);
        slipsBe(x, 0, 0, 2, 1024, 3125);
        slipsBe(x, 0, 0, 5, 1, 32);
        slipsBe(x, 0, 0, 9, 1, 100000);
        // A burglar's word is worth nothing in an even minute.
        x = Due.house(PLAIN + "one 0 1;one 4 1;one 0 1;knows 1 0;knows 2 0;");
        slipsBe(x, 0, 0, 4, 3, 5);
        x.waits(1);
        slipsBe(x, 0, 0, 4, 21, 25);
        // Gentle wants nothing of 5: in any case, whoever slips.
        x = Due.house("house 4 0 0 0 0 0 0 0;one 0 5;one 0 1;knows 1 0;");
        slipsBe(x, 0, 0, 10, 1, 1);
    }

    // Promise 32
    private static void evenings() {
        StairManners x = new StairManners();
        Due.is("32: nobody", x.evenings(123, 60), 0);
        // With seed 0: X is 12345; by 65536 is 0, by 1048576 is 0: one 0 is introduced to step 0.
        x = Due.house("house 4 0 0 0 0 0 0 0;one 0 1;");
        Due.is("32: no minute", x.evenings(0, 0), 0);
        Due.is("32: one minute of seed 0", x.evenings(0, 1), 1);
        // Then X is 12345 * 1103515245 + 12345, left over by 2147483648: 1406932606; 21468 by 6: 0; 1341 by 8: 5.
        x = Due.house("house 4 0 0 0 0 4 0 0;one 0 1;");
        Due.is("32: two minutes of seed 0", x.evenings(0, 2), 2);
        x = Due.house("house 0 0 0 0 0 4 0 0;one 0 1;");
        Due.is("32: what nobody's word is enough for", x.evenings(0, 1), 0);
        Due.is("32: gentle step 5", x.evenings(0, 2), 1);
        // One who knows it stays so; carpets tell on in each minute.
        x = Due.house("house 4 0 0 0 0 1 0 0;one 0 1;carpet 0;carpet 1;");
        Due.is("32: carpets, one minute", x.evenings(0, 1), 2);
        Due.is("32: carpets, two minutes", x.evenings(0, 2), 3);
        // Seed 4: X is 119106029 (1817 by 6: 5, not there), then 1583775778 (24166 by 6: 4, not there).
        x = Due.house("house 0 0 0 0 0 0 0 0;one 0 1;knows 0 0;carpet 0;carpet 1;");
        Due.is("32: a minute goes by if nobody is there to be introduced", x.evenings(4, 1), 2);
        Due.is("32: and another", x.evenings(4, 2), 3);
        // People who came by calls, not by a text.
        x = new StairManners();
        x.step(0, 4);
        x.one(0, 1);
        Due.is("32: no text read", x.evenings(0, 1), 1);
        x.step(0, 5);
        Due.is("32: as the steps are now", x.evenings(0, 1), 0);
        int[][] wrong = {{-1, 0}, {1000000, 0}, {0, -1}, {0, 61}};
        for (int[] w : wrong) {
            Due.is("32: evenings(" + w[0] + ", " + w[1] + ")", x.evenings(w[0], w[1]), -2);
        }
        Due.is("32: counted as BAD", x.status(0), wrong.length);
    }

    private static void eveningsLeaveAll() {
        StairManners x = Due.house("house 4 4 4 4 4 4 4 4;one 0 1;one 1 8;one 2 2;one 3 3;one 4 4;one 5 5;carpet 2;minutes 17;");
        x.waits(2);
        long ahead = x.digest();
        Due.holds("32: evenings bring something", x.evenings(999999, 60) > 10);
        Due.is("32: nothing is changed", x.digest(), ahead);
        Due.is("32: the same seed, the same evenings", x.evenings(5, 33), x.evenings(5, 33));
        Due.is("32: what may be undone stays", x.undo(), 17);
    }
}
