import java.util.List;
import java.util.function.Consumer;

/** Promises 1 to 14: the last call that is taken, the first that is refused, and what it leaves as it was. */
public final class EdgesOfCallsTest {
    private static final String PLAIN = "house 0 0 0 0 0 0 0 0;";
    private static final String GENTLE = "house 4 4 4 4 4 4 4 4;";

    public static void main(String[] args) {
        theObject();
        houseOfNoneAndOfSix();
        oneOfSix();
        bytesOfTheText();
        clearOfNoneAndOfAll();
        meetsOneKnown();
        meetsAtTheLastMinute();
        meetsByACarpetAtTheEnd();
        goesAtTheTop();
        goesInTheHall();
        goesAtTheLastMinute();
        waitsOneAndSixty();
        waitsAtTheLastMinute();
        waitsWhenNoneGoesBy();
        carpetThatIsSo();
        carpetsFirstAndLast();
        stepThatAllKnew();
        undoneAtTheMost();
        undoneBehindOneThatComes();
        undoneBehindARefusal();
        undoneOfEach();
        undoneByRows();
        ofTheHallAndTheTop();
        aboutFirstAndLast();
        Due.finish();
    }

    // 1: "As told; nobody is there"; "at most 512 calls": the last of them is as told still.
    private static void theObject() {
        StairManners x = new StairManners();
        for (int k = 0; k < 511; k++) {
            x.type(k % 128);
        }
        Due.is("the 512th call", x.count(9), 150);
        x = new StairManners();
        for (int k = 0; k < 510; k++) {
            x.waits(60);
        }
        Due.is("the 511th call", x.waits(60), 0);
        Due.is("the 512th call", x.count(1), 9999);
        Edge.bad("1: nobody is there", Edge::nothing, -2, "word", 0);
        Edge.no("1: nothing to undo", Edge::nothing, "undo");
        Edge.no("1: no carpet", Edge::nothing, "carpet", 6, 0);
        Edge.no("1: no image", Edge::nothing, "from", 0);
        Edge.asked("1: an empty text", Edge::nothing, -10, "read");
        Edge.asked("1: nobody knows anything", Edge::nothing, 0, "count", 2);
    }

    // 2: "All as at first (but for IMAGES, THE TEXT, THE FRACTION, STATUS): how many PEOPLE there were."
    private static void houseOfNoneAndOfSix() {
        Edge.asked("2: nobody was there", Edge::nothing, 0, "house");
        StairManners x = Edge.taken("2: six were there", Edge::limits, 6, "house");
        for (int what = 0; what <= 8; what++) {
            Due.is("2: count(" + what + ") behind it", x.count(what), 0);
        }
        Due.is("2: THE TEXT is full still", x.count(9), 150);
        Due.is("2: THE FRACTION", x.part(0) * 100 + x.part(1), 710);
        Due.is("2: nothing to undo", x.undo(), -3);
        for (int s = 0; s < 8; s++) {
            Due.is("2: KIND of " + s, x.about(s, 0), 0);
        }
        Due.is("2: one comes as the first", x.one(0, 1), 0);
        Due.is("2: none of the old SEEN ones, NOTES, MARKS", x.may(0, 0) + x.is(0) + x.kinds(0), 256 + 63 + 63);
        Due.is("2: an IMAGE is there", x.from(1), 1);
        Due.is("2: with six people", x.count(0), 6);
        Due.is("2: and what may be undone", x.count(8), 8);
    }

    private static void people(StairManners x, int many) {
        for (int i = 0; i < many; i++) {
            x.one(i, i + 1);
        }
    }

    // 3: "One comes: the number. BAD; FULL: 6."
    private static void oneOfSix() {
        for (int many = 0; many < 6; many++) {
            int ahead = many;
            StairManners x = Edge.taken("3: room for one more", y -> people(y, ahead), many, "one", 5, 12);
            Due.is("3: one more", x.count(0), many + 1);
            Due.is("3: KIND", x.of(many, 0), 5);
            Due.is("3: WEIGHT", x.of(many, 1), 12);
            Due.is("3: in the hall", x.of(many, 2), -1);
            Due.is("3: KNOWS none", x.of(many, 3), 0);
        }
        Edge.full("3: a 7th", x -> people(x, 6), "one", 0, 1);
        Edge.full("3: a 7th", x -> people(x, 6), "one", 5, 12);
        Edge.full("3: a 7th leaves what may be undone", Edge::limits, "one", 0, 1);
        Edge.bad("3: BAD ahead of FULL", x -> people(x, 6), -2, "one", 6, 1);
        Edge.bad("3: BAD ahead of FULL", x -> people(x, 6), -2, "one", 0, 13);
    }

    private static void bytes(StairManners x, int many) {
        for (int k = 0; k < many; k++) {
            x.type(32);
        }
    }

    // 4: "A byte (0 .. 127) comes behind THE TEXT: how many it has. BAD; FULL."; "150 bytes at most".
    private static void bytesOfTheText() {
        Edge.taken("4: the first byte", Edge::nothing, 1, "type", 0);
        Edge.taken("4: the first byte", Edge::nothing, 1, "type", 127);
        StairManners x = Edge.taken("4: the 150th byte", y -> bytes(y, 149), 150, "type", 65);
        Due.is("4: it is behind the others", x.read(), -10 - 149);
        Edge.full("4: the 151st byte", y -> bytes(y, 150), "type", 65);
        Edge.full("4: the 151st byte", Edge::limits, "type", 0);
        Edge.full("4: the 151st byte", Edge::limits, "type", 127);
        Edge.bad("4: BAD ahead of FULL", Edge::limits, -2, "type", 128);
        Edge.bad("4: BAD ahead of FULL", Edge::limits, -2, "type", -1);
    }

    // 5: "THE TEXT is empty: how many it had."
    private static void clearOfNoneAndOfAll() {
        Edge.asked("5: an empty one", Edge::nothing, 0, "clear");
        Edge.taken("5: one byte", x -> bytes(x, 1), 1, "clear");
        StairManners x = Edge.taken("5: 150 bytes", Edge::limits, 150, "clear");
        Due.is("5: empty now", x.count(9), 0);
        Due.is("5: nothing to read", x.read(), -10);
        Due.is("5: nothing else is changed", x.undo(), 9999);
        Due.is("5: room again", x.type(59), 1);
    }

    // 7: "1 if one KNOWS it behind that MINUTE, 0. NO: one KNOWS it already"
    private static void meetsOneKnown() {
        for (int s : new int[] {0, 7}) {
            Consumer<StairManners> known = x -> {
                Edge.read(x, GENTLE + "one 0 5;");
                x.meets(0, s);
            };
            StairManners x = Edge.taken("7: not known yet", Edge.told(GENTLE + "one 0 5;"), 1, "meets", 0, s);
            Due.is("7: known", x.of(0, 3), 1 << s);
            Due.is("7: a MINUTE went by", x.count(1), 1);
            Edge.no("7: known already", known, "meets", 0, s);
            x = Edge.made(known);
            x.step(s, 4);
            Due.is("7: put in new, no longer known", x.meets(0, s), 1);
            x.undo();
            Due.is("7: undone, no longer known", x.meets(0, s), 1);
        }
        StairManners x = Edge.taken("7: nobody speaks", Edge.told(PLAIN + "one 0 1;"), 0, "meets", 0, 0);
        Due.is("7: a MINUTE in any case", x.count(1), 1);
        Due.is("7: that may be undone", x.undo(), 0);
    }

    // 7: "NO: .. MINUTE 9999"
    private static void meetsAtTheLastMinute() {
        String text = GENTLE + "one 0 5;one 0 5;knows 0 7;";
        StairManners x = Edge.taken("7: in MINUTE 9998", Edge.told(text, 9998), 1, "meets", 1, 0);
        Due.is("7: the last MINUTE", x.count(1), 9999);
        Edge.no("7: in MINUTE 9999", Edge.told(text, 9999), "meets", 1, 0);
        Edge.no("7: in MINUTE 9999, one known", Edge.told(text, 9999), "meets", 0, 7);
        Edge.bad("7: BAD ahead of NO", Edge.told(text, 9999), -2, "meets", 2, 0);
        Edge.bad("7: BAD ahead of NO", Edge.told(text, 9999), -2, "meets", 0, 8);
    }

    // 7: "1 if one KNOWS it behind that MINUTE (by a CARPET, too), 0"
    private static void meetsByACarpetAtTheEnd() {
        String text = PLAIN + "one 0 9;knows 0 6;carpet 6;";
        StairManners x = Edge.taken("7: told on by the last CARPET in that MINUTE", Edge.told(text), 1, "meets", 0, 7);
        Due.is("7: both known", x.of(0, 3), 128 + 64);
        Edge.taken("7: told on by the first CARPET", Edge.told(PLAIN + "one 0 9;knows 0 0;carpet 0;"), 1, "meets", 0, 1);
        Edge.taken("7: two STEPS on", Edge.told(PLAIN + "one 0 9;knows 0 0;carpet 0;carpet 1;"), 0, "meets", 0, 2);
        Edge.taken("7: the other way", Edge.told(PLAIN + "one 0 9;knows 0 1;carpet 0;"), 0, "meets", 0, 0);
        Edge.taken("7: another's name", Edge.told(PLAIN + "one 0 9;one 2 9;knows 1 0;carpet 0;minutes 18;"), 0, "meets", 0, 1);
    }

    // 8: "where one is then. NO -3: at the top"; "from STEP 7 to the top in any case"
    private static void goesAtTheTop() {
        StairManners x = Edge.taken("8: from STEP 7, that it does not KNOW", Edge.told(PLAIN + "one 0 1;at 0 7;"), 8, "goes", 0, 1);
        Due.is("8: at the top", x.count(4), 1);
        Edge.no("8: up at the top", Edge.told(PLAIN + "one 0 1;at 0 8;"), "goes", 0, 1);
        Edge.taken("8: down from the top", Edge.told(PLAIN + "one 0 1;at 0 8;"), 7, "goes", 0, 0);
        Edge.taken("8: STEP 7 must be known", Edge.told(PLAIN + "one 0 1;at 0 6;"), 6, "goes", 0, 1);
        Edge.taken("8: STEP 7 is known", Edge.told(PLAIN + "one 0 1;at 0 6;knows 0 7;"), 7, "goes", 0, 1);
        Edge.bad("8: BAD ahead of NO", Edge.told(PLAIN + "one 0 1;at 0 8;"), -10, "goes", 0, 2);
    }

    // 8: "NO -3: .. in the hall"; "GOING DOWN: to the one below (to the hall from STEP 0)"
    private static void goesInTheHall() {
        StairManners x = Edge.taken("8: down from STEP 0", Edge.told(PLAIN + "one 0 1;at 0 0;"), -1, "goes", 0, 0);
        Due.is("8: in the hall", x.of(0, 2), -1);
        Due.is("8: a MINUTE", x.count(1), 1);
        Edge.no("8: down in the hall", Edge.told(PLAIN + "one 0 1;"), "goes", 0, 0);
        x = Edge.taken("8: STEP 0 must be known", Edge.told(PLAIN + "one 0 1;"), -1, "goes", 0, 1);
        Due.is("8: a MINUTE also if it does not bear one", x.count(1), 1);
        Due.is("8: that may be undone", x.undo(), 0);
        Edge.taken("8: STEP 0 is known", Edge.told(PLAIN + "one 0 1;knows 0 0;"), 0, "goes", 0, 1);
        Edge.taken("8: one on it need not KNOW it", Edge.told(PLAIN + "one 0 1;at 0 0;knows 0 1;"), 1, "goes", 0, 1);
        Edge.taken("8: down to one that it does not KNOW", Edge.told(PLAIN + "one 0 1;at 0 1;"), 0, "goes", 0, 0);
        Edge.bad("8: BAD ahead of NO", Edge.told(PLAIN + "one 0 1;"), -10, "goes", 0, -1);
    }

    // 8: "NO -3: .. MINUTE 9999"
    private static void goesAtTheLastMinute() {
        String text = PLAIN + "one 0 1;knows 0 4;at 0 3;";
        StairManners x = Edge.taken("8: up in MINUTE 9998", Edge.told(text, 9998), 4, "goes", 0, 1);
        Due.is("8: the last MINUTE", x.count(1), 9999);
        Edge.taken("8: down in MINUTE 9998", Edge.told(text, 9998), 2, "goes", 0, 0);
        Edge.no("8: up in MINUTE 9999", Edge.told(text, 9999), "goes", 0, 1);
        Edge.no("8: down in MINUTE 9999", Edge.told(text, 9999), "goes", 0, 0);
        Edge.no("8: two reasons are one refusal", Edge.told(PLAIN + "one 0 1;", 9999), "goes", 0, 0);
        Edge.bad("8: BAD ahead of NO", Edge.told(text, 9999), -10, "goes", 1, 0);
    }

    // 9: "n MINUTES go by (1 .. 60; together one that may be undone ..): how many STEPS all KNOW together."
    private static void waitsOneAndSixty() {
        String text = PLAIN + "one 0 1;one 0 1;knows 0 0;knows 1 0;carpet 0;carpet 1;";
        StairManners x = Edge.taken("9: one MINUTE", Edge.told(text), 4, "waits", 1);
        Due.is("9: 1", x.count(1), 1);
        x = Edge.taken("9: sixty MINUTES", Edge.told(text), 6, "waits", 60);
        Due.is("9: 60", x.count(1), 60);
        Due.is("9: one that may be undone", x.count(8), 1);
        Due.is("9: undone together", x.undo(), 0);
        Due.is("9: what all KNEW", x.count(2), 2);
        Edge.bad("9: none", Edge.told(text), -2, "waits", 0);
        Edge.bad("9: 61", Edge.told(text), -2, "waits", 61);
    }

    // "9999 at most"
    private static void waitsAtTheLastMinute() {
        int[][] due = {{9998, 1, 9999}, {9998, 2, 9999}, {9998, 60, 9999}, {9939, 60, 9999}, {9938, 60, 9998}, {9940, 60, 9999}};
        for (int[] d : due) {
            StairManners x = Edge.taken("9: from " + d[0], Edge.told(PLAIN, d[0]), 0, "waits", d[1]);
            Due.is("9: the MINUTE behind " + d[1], x.count(1), d[2]);
            Due.is("9: undone", x.undo(), d[0]);
        }
        StairManners x = Edge.taken("9: one MINUTE is left, so one STEP is told on",
            Edge.told(PLAIN + "one 0 1;", 9998), 0, "waits", 60);
        Due.is("9: 9999", x.count(1), 9999);
        x = Edge.made(Edge.told(PLAIN + "one 0 1;knows 0 0;", 9998));
        x.carpet(0, 1);
        x.carpet(1, 1);
        Due.is("9: one MINUTE is left, so one STEP is told on", x.waits(60), 2);
        Due.is("9: none is left", x.waits(60), 2);
    }

    // 9: "together one that may be undone, also if none goes by; at 9999 none goes by"
    private static void waitsWhenNoneGoesBy() {
        StairManners x = Edge.made(Edge.told(PLAIN + "one 0 1;one 0 1;knows 0 0;knows 1 3;", 9999));
        x.one(0, 1);
        x.carpet(0, 1);
        Due.is("9: no CARPET tells then", x.waits(60), 2);
        Due.is("9: 9999 still", x.count(1), 9999);
        Due.is("9: it may be undone", x.count(8), 2);
        Due.is("9: undone, the CARPET lies still", x.undo() + x.count(3), 10000);
        Due.is("9: undone, and the CARPET", x.undo() + x.count(3), 9999);
        x = Edge.made(Edge.told(PLAIN, 9999));
        for (int k = 0; k < 9; k++) {
            x.waits(1);
        }
        for (int k = 0; k < 8; k++) {
            Due.is("12: the last eight, by which none went", x.undo(), 9999);
        }
        Due.is("12: no 9th", x.undo(), -3);
        Edge.bad("9: BAD at 9999, too", Edge.told(PLAIN, 9999), -2, "waits", 61);
    }

    // 10: "A CARPET is laid (1), or taken (0): what it was. BAD; NO: it is so."
    private static void carpetThatIsSo() {
        Edge.no("10: none lies there", Edge.told(PLAIN), "carpet", 3, 0);
        Edge.taken("10: laid", Edge.told(PLAIN), 0, "carpet", 3, 1);
        Edge.no("10: one lies there", Edge.told(PLAIN + "carpet 3;"), "carpet", 3, 1);
        StairManners x = Edge.taken("10: taken", Edge.told(PLAIN + "carpet 3;"), 1, "carpet", 3, 0);
        Due.is("10: none lies there", x.count(3), 0);
        Due.is("10: undone", x.undo() + x.about(3, 2), 1);
        Edge.no("10: another lies there", Edge.told(PLAIN + "carpet 2;carpet 4;"), "carpet", 3, 0);
        Edge.bad("10: BAD ahead of NO", Edge.told(PLAIN + "carpet 3;"), -2, "carpet", 3, 2);
        Edge.taken("10: no MINUTE is needed", Edge.told(PLAIN, 9999), 0, "carpet", 0, 1);
    }

    // "CARPETS (bits 0 .. 6: from STEP k to k and 1; none at first)"
    private static void carpetsFirstAndLast() {
        for (int k : new int[] {0, 6}) {
            StairManners x = Edge.taken("10: from " + k, Edge.told(PLAIN + "one 0 1;knows 0 0;knows 0 6;"), 0, "carpet", k, 1);
            Due.is("10: one", x.count(3), 1);
            Due.is("14: it leads on from " + k, x.about(k, 2), 1);
            Due.is("14: not from the next", x.about(k + 1, 2), 0);
            Due.is("10: no MINUTE", x.count(1), 0);
            Due.is("10: it tells to the next", x.waits(1), 3);
            Due.is("10: to the next", x.of(0, 3), 65 + (2 << k));
        }
        Edge.bad("10: none leads on from STEP 7", Edge.told(PLAIN), -2, "carpet", 7, 1);
        Edge.bad("10: none leads on from STEP 7", Edge.told(PLAIN), -2, "carpet", 7, 0);
        Edge.bad("10: none leads on from the hall", Edge.told(PLAIN), -2, "carpet", -1, 1);
        StairManners x = new StairManners();
        for (int k = 0; k < 7; k++) {
            x.carpet(k, 1);
        }
        Due.is("37: all of them", x.count(3), 7);
    }

    // 11: "how many KNEW it"; "nobody KNOWS it any more (who stands on it stays)"
    private static void stepThatAllKnew() {
        Edge.taken("11: nobody is there", Edge.told(PLAIN), 0, "step", 0, 0);
        Consumer<StairManners> six = x -> {
            Edge.read(x, GENTLE + "one0 1;one0 1;one0 1;one0 1;one0 1;one0 1;at 0 7;at 5 7;");
            for (int i = 0; i < 6; i++) {
                x.meets(i, 7);
            }
            x.meets(5, 0);
        };
        StairManners x = Edge.taken("11: all six KNEW it", six, 6, "step", 7, 5);
        Due.is("11: KIND", x.about(7, 0), 5);
        Due.is("11: nobody KNOWS it", x.about(7, 1), 0);
        Due.is("11: the others are known still", x.about(0, 1), 32);
        Due.is("11: who stands on it stays", x.of(5, 2), 7);
        Due.is("11: no MINUTE", x.count(1), 7);
        Due.is("11: undone", x.undo(), 7);
        Due.is("11: all KNOW it again", x.about(7, 1), 63);
        Due.is("11: KIND again", x.about(7, 0), 4);
        Edge.taken("11: one KNEW it", six, 1, "step", 0, 4);
        Edge.taken("11: nobody KNEW it", six, 0, "step", 1, 4);
        x = Edge.taken("11: of the same KIND", six, 6, "step", 7, 4);
        Due.is("11: it may be undone, too", x.count(8), 8);
        Edge.taken("11: no MINUTE is needed", Edge.told(PLAIN, 9999), 0, "step", 7, 5);
    }

    // 12: "8 at most"; "NO: none may be."
    private static void undoneAtTheMost() {
        for (int many = 0; many <= 10; many++) {
            StairManners x = new StairManners();
            for (int k = 0; k < many; k++) {
                x.waits(1);
            }
            int most = Math.min(many, 8);
            Due.is("12: of " + many, x.count(8), most);
            for (int k = 1; k <= most; k++) {
                Due.is("12: the " + k + "-th of " + many, x.undo(), many - k);
                Due.is("12: are left", x.count(8), most - k);
            }
            Due.is("12: one more than " + most, x.undo(), -3);
            Due.is("12: the MINUTE stays", x.count(1), many - most);
        }
        Edge.no("12: none may be", Edge::nothing, "undo");
        Edge.no("12: none may be behind the last", x -> {
            x.waits(1);
            x.undo();
        }, "undo");
        StairManners x = Edge.made(Edge::limits);
        for (int k = 0; k < 8; k++) {
            x.undo();
            x.carpet(5, 1);
            x.undo();
        }
        Due.is("12: what came behind an undo is undone first", x.count(1), 9876);
        Due.is("12: none is left", x.undo(), -3);
    }

    // "behind one that comes none may be"; an IMAGE's stay; a HOUSE read, house(): nothing to undo
    private static void undoneBehindOneThatComes() {
        Consumer<StairManners> ahead = x -> {
            Edge.read(x, PLAIN + "one 0 1;");
            x.waits(3);
            x.image(0);
        };
        StairManners x = Edge.taken("3: one comes", ahead, 1, "one", 0, 1);
        Due.is("12: none may be undone behind one that comes", x.undo(), -3);
        Due.is("12: the MINUTE stays", x.count(1), 3);
        x.waits(1);
        Due.is("12: what comes behind it may be", x.undo(), 3);
        Due.is("12: no more than that", x.undo(), -3);
        Due.is("35: from the IMAGE", x.from(0), 1);
        Due.is("35: what it kept may be undone", x.undo(), 0);
        Due.is("12: behind read()", Edge.taken("6", ahead, 2, "read").undo(), -3);
        Due.is("12: behind house()", Edge.taken("2", ahead, 1, "house").undo(), -3);
        Due.is("12: behind a FAULT", Edge.made(ahead.andThen(y -> y.type('x')).andThen(StairManners::read)).undo(), 0);
    }

    // What is refused is none of the last eight.
    private static void undoneBehindARefusal() {
        StairManners x = Edge.made(Edge.told(PLAIN + "one 0 1;knows 0 0;"));
        x.waits(1);
        x.meets(0, 0);
        x.meets(1, 0);
        x.goes(0, 0);
        x.goes(0, 2);
        x.waits(61);
        x.carpet(0, 0);
        x.carpet(7, 1);
        x.step(8, 0);
        x.one(6, 0);
        Due.is("12: one may be undone", x.count(8), 1);
        Due.is("12: the MINUTE", x.undo(), 0);
        Due.is("12: no more", x.undo(), -3);
    }

    // "what all KNOW, where they are, KINDS of STEPS, CARPETS, the MINUTE as ahead of the last MINUTES gone by, .."
    private static void undoneOfEach() {
        Consumer<StairManners> ahead = Edge.told("house 4 0 0 4 0 0 0 5;one 0 5;one 1 5;knows 0 2;knows 1 7;carpet 2;at 1 6;");
        String[] names = {"waits", "meets", "meets", "goes", "goes", "goes", "carpet", "carpet", "step"};
        int[][] numbers = {{60}, {0, 0}, {0, 6}, {1, 1}, {1, 0}, {0, 1}, {6, 1}, {2, 0}, {7, 0}};
        for (int k = 0; k < names.length; k++) {
            StairManners x = Edge.made(ahead);
            long digest = x.digest();
            Due.holds("12: " + names[k] + " is taken", Edge.call(x, names[k], numbers[k]) > -2);
            Due.holds("12: " + names[k] + " changes something", x.digest() != digest);
            Due.is("12: undone to MINUTE 0", x.undo(), 0);
            List<Long> got = Edge.all(x);
            Due.holds("12: all as ahead of " + names[k], got.equals(Edge.all(Edge.made(ahead))));
        }
    }

    // SEEN ones, NOTES, MARKS, THE TEXT, THE FRACTION, IMAGES are none of what is undone, and stay when it is.
    private static void undoneByRows() {
        StairManners x = Edge.made(Edge.told(GENTLE + "one 0 1;one 0 1;"));
        x.meets(1, 0);
        x.step(0, 0);
        x.undo();
        x.waits(1);
        x.seen(0, 7, 0);
        x.note(0, 6, 0, 0);
        x.mark(0, 0, 0, 0);
        x.type(120);
        x.slips(0, 1, 10);
        x.image(0);
        x.forget(3);
        int[] due = {2, 2, 1, 0, 0, 1, 1, 1, 2};
        for (int what = 0; what < due.length; what++) {
            Due.is("12: ahead of it: count(" + what + ")", x.count(what), due[what]);
        }
        int bytes = x.count(9);
        Due.is("12: undone", x.undo(), 1);
        Due.is("12: undone", x.undo(), 0);
        Due.is("12: SEEN ones, NOTES, MARKS stay", x.count(5) * 100 + x.count(6) * 10 + x.count(7), 111);
        Due.is("12: THE TEXT stays", x.count(9), bytes);
        Due.is("12: THE FRACTION stays", x.part(0) * 10 + x.part(1), 11);
        Due.is("12: STATUS stays", x.status(0) + x.status(1) + x.status(2), 1);
        Due.is("12: the IMAGE stays", x.from(0) + x.count(8), 3);
    }

    // 13: "KIND (0), WEIGHT (1), where (2; NONE), KNOWS (3; bits)"
    private static void ofTheHallAndTheTop() {
        String text = PLAIN + "one 0 1;one 5 12;at 1 8;knows 1 0;knows 1 7;";
        int[][] due = {{0, 1, -1, 0}, {5, 12, 8, 129}};
        for (int i = 0; i < 2; i++) {
            for (int what = 0; what < 4; what++) {
                Edge.asked("13: of", Edge.told(text), due[i][what], "of", i, what);
            }
        }
        Edge.asked("13: on STEP 0", Edge.told(PLAIN + "one 0 1;at 0 0;"), 0, "of", 0, 2);
        Edge.asked("13: KNOWS all", Edge.told(PLAIN + "one 0 1;knows 0 0;carpet 0;carpet 1;carpet 2;carpet 3;carpet 4;"
            + "carpet 5;carpet 6;minutes 7;"), 255, "of", 0, 3);
        Edge.bad("13: who is BAD -10, as NONE is an answer", Edge.told(text), -10, "of", 2, 2);
        Edge.bad("13: what is BAD -10", Edge.told(text), -10, "of", 0, 4);
        Edge.bad("13: what is BAD -10", Edge.told(text), -10, "of", 0, -1);
    }

    // 14: "KIND (0), who KNOWS it (1; bits), whether a CARPET leads on from it (2; 1, 0)"
    private static void aboutFirstAndLast() {
        String text = "house 5 0 0 0 0 0 4 1;one0 1;one0 1;one0 1;one0 1;one0 1;one0 1;knows 0 0;knows 5 0;knows 5 7;carpet 0;carpet 6;";
        int[][] due = {{0, 5, 33, 1}, {1, 0, 0, 0}, {6, 4, 0, 1}, {7, 1, 32, 0}};
        for (int[] d : due) {
            for (int what = 0; what < 3; what++) {
                Edge.asked("14: about", Edge.told(text), d[1 + what], "about", d[0], what);
            }
        }
        Edge.bad("14: the top is no STEP", Edge.told(text), -2, "about", 8, 0);
        Edge.bad("14: the hall is no STEP", Edge.told(text), -2, "about", -1, 0);
        Edge.bad("14: what", Edge.told(text), -2, "about", 0, 3);
        Edge.bad("14: what", Edge.told(text), -2, "about", 7, -1);
    }
}
