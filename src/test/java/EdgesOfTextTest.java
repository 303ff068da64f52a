import java.util.Arrays;
import java.util.List;
import java.util.function.Consumer;

/** Promise 6: the sentences on THE TEXT that name a boundary; each FAULT leaves all as it was. */
public final class EdgesOfTextTest {
    private static final String PLAIN = "house 0 0 0 0 0 0 0 0;";
    private static final String ONE = PLAIN + "one 0 5;";

    public static void main(String[] args) {
        bytesAtTheMost();
        endsTooEarly();
        everyPrefix();
        everyTokenInTheWrongPlace();
        kindsOfEightSteps();
        houseOnceAndFirst();
        oneKindWeight();
        sixAtTheMost();
        knowsWhoIsThere();
        carpetsOfSeven();
        atEachPlace();
        minutesOfOneItem();
        minutesWhereTheyStand();
        figures();
        blanks();
        words();
        bytesThatBeginNone();
        itemsEndBySemicolon();
        firstFaultOfSome();
        takesThePlaceOfAll();
        Due.finish();
    }

    private static Consumer<StairManners> typed(String text) {
        return x -> {
            x.clear();
            Edge.type(x, text);
        };
    }

    /** Somebody's house ahead of the text, so that it shows that all stays. */
    private static Consumer<StairManners> behindAHouse(String text) {
        Consumer<StairManners> house = Edge::six;
        return house.andThen(x -> x.waits(3)).andThen(typed(text));
    }

    private static StairManners reads(String text, int items) {
        StairManners x = Edge.taken("6: '" + text + "'", behindAHouse(text), items, "read");
        Due.is("6: as many again: '" + text + "'", x.read(), items);
        Due.is("6: THE TEXT stays: '" + text + "'", x.count(9), text.length());
        return x;
    }

    /** "-10 less the FAULT: all stays." */
    private static void fault(String text, int place) {
        Edge.asked("6: '" + text + "'", behindAHouse(text), -10 - place, "read");
        Edge.asked("6: '" + text + "', of a new object", typed(text), -10 - place, "read");
    }

    private static String filled(String head, int length, String tail) {
        return head + " ".repeat(length - head.length() - tail.length()) + tail;
    }

    // "THE HOUSE is told by a TEXT (150 bytes at most)"
    private static void bytesAtTheMost() {
        reads(filled("house 0 0 0 0 0 0 0 5", 150, ";"), 1);
        reads(filled(PLAIN, 150, ""), 1);
        reads(filled("", 150, PLAIN), 1);
        fault(filled("house 0 0 0 0 0 0 0 5", 150, ""), 150);
        fault(filled("house 0 0 0 0 0 0 0 5", 150, "6"), 149);
        fault(filled(PLAIN, 150, ";"), 149);
        fault(filled(PLAIN, 150, "a"), 149);
        Consumer<StairManners> full = typed(filled(PLAIN, 149, "") + ";");
        Edge.full("4: the 151st byte", full, "type", 32);
        Edge.asked("6: of 150 bytes the last one", full, -10 - 149, "read");
        Consumer<StairManners> more = full.andThen(x -> x.type(';'));
        Edge.asked("6: the refused byte is not there", more, -10 - 149, "read");
        StairManners x = Edge.made(typed(filled("house 0 0 0 0 0 0 0 0", 150, "")));
        x.type(';');
        Due.is("6: an end that has no room", x.read(), -10 - 150);
    }

    // "the TEXT's length, if it ends too early (an empty one, too)"
    private static void endsTooEarly() {
        fault("", 0);
        fault(" ", 1);
        fault(filled("", 149, ""), 149);
        fault(filled("", 150, ""), 150);
        fault("house", 5);
        fault("house ", 6);
        fault(" house", 6);
        fault("house0 0 0 0 0 0 0 0", 20);
        fault("house0 0 0 0 0 0 0 0   ", 23);
        fault(PLAIN + "one", 25);
        fault(PLAIN + "one ", 26);
        fault(PLAIN + "one0", 26);
        fault(PLAIN + "one0 12", 29);
        fault(ONE + "knows", 35);
        fault(ONE + "knows0", 36);
        fault(ONE + "knows0 7", 38);
        fault(ONE + "carpet", 36);
        fault(ONE + "carpet6 ", 38);
        fault(ONE + "at", 32);
        fault(ONE + "at0", 33);
        fault(ONE + "at0 8", 35);
        fault(ONE + "minutes", 37);
        fault(ONE + "minutes99", 39);
    }

    // Whole items alone are a HOUSE; any other whole tokens end too early.
    private static void everyPrefix() {
        String[] tokens = ("house 5 4 3 2 1 0 5 4 ; one 5 12 ; knows 0 7 ; carpet 6 ; at 0 8 ; minutes 99 ; one 0 1 ; at 1 0 ;").split(" ");
        String text = "";
        int items = 0;
        for (String token : tokens) {
            text += " " + token;
            if (token.equals(";")) {
                items++;
                reads(text, items);
            } else {
                fault(text, text.length());
                fault(text + " ", text.length() + 1);
            }
        }
        Due.is("items", items, 8);
    }

    // "the first TOKEN that can not stand there": ahead of each TOKEN of a TEXT one of every other sort.
    private static void everyTokenInTheWrongPlace() {
        String[] tokens = ("house 5 4 3 2 1 0 5 4 ; one 5 12 ; knows 0 7 ; carpet 6 ; at 0 8 ; minutes 99 ;").split(" ");
        String[] words = {"one", "knows", "carpet", "at", "minutes"};
        String[] neverThere = {"stair", "house", "a", "000", "1234", "A", "-", ":"};
        StringBuilder text = new StringBuilder();
        for (int k = 0; k < tokens.length; k++) {
            boolean number = tokens[k].charAt(0) <= '9';
            boolean end = tokens[k].equals(";");
            for (String wrong : neverThere) {
                if (k > 0 || !wrong.equals("house")) {
                    fault(text + wrong + " " + tokens[k], text.length());
                }
            }
            for (String word : words) {
                if (number || end || k == 0) {
                    fault(text + word + " " + tokens[k], text.length());
                }
            }
            if (!number) {
                fault(text + "0 " + tokens[k], text.length());
                fault(text + "05 " + tokens[k], text.length());
            }
            if (!end) {
                fault(text + "; " + tokens[k], text.length());
            }
            text.append(tokens[k]).append(' ');
        }
        reads(text.toString(), 6);
    }

    // "house and 8 numbers (KINDS of STEPS 0 to 7 ..)"
    private static void kindsOfEightSteps() {
        for (int s = 0; s < 8; s++) {
            String head = "house" + " 0".repeat(s);
            String tail = " 0".repeat(7 - s) + ";";
            StairManners x = reads(head + " 5" + tail, 1);
            for (int k = 0; k < 8; k++) {
                Due.is("6: KIND of " + k, x.about(k, 0), k == s ? 5 : 0);
            }
            fault(head + " 6" + tail, head.length() + 1);
            fault(head + " 99" + tail, head.length() + 1);
            fault(head + " ;", head.length() + 1);
            fault(head + " one" + tail, head.length() + 1);
        }
        fault("house 0 0 0 0 0 0 0 0 0;", 22);
        fault("house 0 0 0 0 0 0 0 0 9;", 22);
        fault("house 0 0 0 0 0 0 0 000;", 20);
    }

    // "(.. once, first of all)"; FAULT: "house again, anything ahead of it"
    private static void houseOnceAndFirst() {
        reads(PLAIN, 1);
        reads("  " + PLAIN, 1);
        fault(PLAIN + PLAIN, 22);
        fault(PLAIN + "  house", 24);
        fault(ONE + "house 0 0 0 0 0 0 0 0;", 30);
        String[] ahead = {"one 0 5;", "knows 0 0;", "carpet 0;", "at 0 0;", "minutes 1;", ";", "0", "0;", "000", "stair", "A", "\n", "houses"};
        for (String some : ahead) {
            fault(some, 0);
            fault(some + PLAIN, 0);
            fault("   " + some + " " + PLAIN, 3);
        }
        fault("house house 0 0 0 0 0 0 0 0;", 6);
    }

    // "one KIND WEIGHT"; "a number not as told"; WEIGHT 1 .. 12
    private static void oneKindWeight() {
        int[][] told = {{0, 1}, {0, 12}, {5, 1}, {5, 12}};
        for (int[] t : told) {
            StairManners x = reads(PLAIN + "one " + t[0] + " " + t[1] + ";", 2);
            Due.is("6: KIND", x.of(0, 0), t[0]);
            Due.is("6: WEIGHT", x.of(0, 1), t[1]);
            Due.is("6: in the hall", x.of(0, 2), -1);
            Due.is("6: KNOWS none", x.of(0, 3), 0);
        }
        fault(PLAIN + "one 6 1;", 26);
        fault(PLAIN + "one 99 1;", 26);
        fault(PLAIN + "one 0 0;", 28);
        fault(PLAIN + "one 0 00;", 28);
        fault(PLAIN + "one 0 13;", 28);
        fault(PLAIN + "one 0 99;", 28);
        fault(PLAIN + "one 0;", 27);
        fault(PLAIN + "one;", 25);
        fault(PLAIN + "one 0 5 5;", 30);
        fault(PLAIN + "one guest 5;", 26);
    }

    // FAULT: "a 7th one at its word"
    private static void sixAtTheMost() {
        String six = PLAIN + "one 0 1;one 1 2;one 2 3;one 3 4;one 4 5;one 5 6;";
        StairManners x = reads(six, 7);
        Due.is("6: six", x.count(0), 6);
        Due.is("6: the 6th", x.of(5, 1), 6);
        x = reads(six + "at 5 8;knows 5 7;", 9);
        Due.is("6: the 6th at the top", x.count(4), 1);
        fault(six + "one 0 1;", 70);
        fault(six + "  one", 72);
        fault(six + "one 9 99;", 70);
        fault(six + "carpet 0; one", 80);
    }

    // "knows i s"; FAULT: "a number not as told, also one that is not there yet"
    private static void knowsWhoIsThere() {
        for (int s : new int[] {0, 7}) {
            StairManners x = reads(ONE + "one 0 5;knows 1 " + s + ";", 4);
            Due.is("6: the last who is there", x.about(s, 1), 2);
            x = reads(ONE + "one 0 5;knows 0 " + s + ";", 4);
            Due.is("6: the first", x.about(s, 1), 1);
        }
        fault(PLAIN + "knows 0 0;", 28);
        fault(ONE + "knows 1 0;", 36);
        fault(ONE + "knows 1 0;one 0 5;", 36);
        fault(ONE + "knows 0 8;", 38);
        fault(ONE + "knows 0 99;", 38);
        fault(ONE + "knows 9 9;", 36);
        fault(ONE + "knows 0;", 37);
        StairManners x = reads(ONE + "knows 0 7;knows 0 7;", 4);
        Due.is("6: told twice", x.of(0, 3), 128);
    }

    // "carpet k": 0 .. 6
    private static void carpetsOfSeven() {
        for (int k : new int[] {0, 6}) {
            StairManners x = reads(PLAIN + "carpet " + k + ";", 2);
            Due.is("6: it leads on from " + k, x.about(k, 2), 1);
            Due.is("6: that one alone", x.count(3), 1);
        }
        fault(PLAIN + "carpet 7;", 29);
        fault(PLAIN + "carpet 99;", 29);
        fault(PLAIN + "carpet;", 28);
        fault(PLAIN + "carpet 0 1;", 31);
        Due.is("6: told twice", reads(PLAIN + "carpet 6;carpet 6;", 3).count(3), 1);
        StairManners x = reads(ONE + "one 0 5;knows 0 3;carpet 0;carpet 1;", 6);
        Due.is("6: of one 0 nothing is told by it", x.of(0, 2) * 100 + x.of(0, 3), -92);
        Due.is("6: of one 1, too", x.of(1, 2) * 100 + x.of(1, 3), -100);
        Due.is("6: no MINUTE goes by", x.count(1), 0);
    }

    // "at i s (where one is: 0 .. 8)"
    private static void atEachPlace() {
        for (int place = 0; place <= 8; place++) {
            StairManners x = reads(ONE + "one 0 5;at 1 " + place + ";", 4);
            Due.is("6: where one is", x.of(1, 2), place);
            Due.is("6: where the other is", x.of(0, 2), -1);
            Due.is("6: no MINUTE goes by", x.count(1), 0);
        }
        fault(ONE + "at 0 9;", 35);
        fault(ONE + "at 0 10;", 35);
        fault(ONE + "at 1 0;", 33);
        fault(PLAIN + "at 0 0;", 25);
        fault(ONE + "at 0;", 34);
        Due.is("6: told twice, the last one", reads(ONE + "at 0 8;at 0 0;", 4).of(0, 2), 0);
    }

    // "minutes n (1 .. 99: so many go by ..)"
    private static void minutesOfOneItem() {
        Due.is("6: 1", reads(PLAIN + "minutes 1;", 2).count(1), 1);
        Due.is("6: 01", reads(PLAIN + "minutes 01;", 2).count(1), 1);
        Due.is("6: 99", reads(PLAIN + "minutes 99;", 2).count(1), 99);
        fault(PLAIN + "minutes 0;", 30);
        fault(PLAIN + "minutes 00;", 30);
        fault(PLAIN + "minutes 100;", 30);
        fault(PLAIN + "minutes 001;", 30);
        fault(PLAIN + "minutes;", 29);
        fault(PLAIN + "minutes 1 1;", 32);
        String longest = "house0 0 0 0 0 0 0 0;" + "minutes99;".repeat(12);
        StairManners x = reads(longest, 13);
        Due.is("6: as many as a TEXT can tell", x.count(1), 1188);
        Due.is("6: none of them may be undone", x.undo(), -3);
    }

    // "so many go by, where it stands": what is told behind it came later.
    private static void minutesWhereTheyStand() {
        String told = "one 0 5;knows 0 0;carpet 0;";
        Due.is("6: behind all", reads(PLAIN + told + "minutes 1;", 5).of(0, 3), 3);
        Due.is("6: ahead of the CARPET", reads(PLAIN + "one 0 5;knows 0 0;minutes 99;carpet 0;", 5).of(0, 3), 1);
        Due.is("6: ahead of what one KNOWS", reads(PLAIN + "one 0 5;carpet 0;minutes 99;knows 0 0;", 5).of(0, 3), 1);
        Due.is("6: ahead of one", reads(PLAIN + "minutes 99;" + told, 5).of(0, 3), 1);
        Due.is("6: twice", reads(PLAIN + told + "minutes 1;carpet 1;minutes 1;", 7).of(0, 3), 7);
        Due.is("6: twice add up", reads(PLAIN + "minutes 99;minutes 1;", 3).count(1), 100);
    }

    // "figures (1 or 2 are one number)"; "a run of three figures or more (at its first one)"
    private static void figures() {
        StairManners x = reads("house 00 01 02 03 04 05 5 0;one 05 01;one 5 12;", 3);
        for (int s = 0; s < 6; s++) {
            Due.is("6: two figures", x.about(s, 0), s);
        }
        Due.is("6: 01", x.of(0, 1), 1);
        Due.is("6: 12", x.of(1, 1), 12);
        fault("house 000 0 0 0 0 0 0 0;", 6);
        fault("house 0 001 0 0 0 0 0 0;", 8);
        fault("house 0000000 0;", 6);
        fault("house 00000000;", 6);
        fault("house 0 0 0 0 0 0 0 000", 20);
        fault(PLAIN + "one 005 5;", 26);
        fault(PLAIN + "one 5 005;", 28);
        fault(PLAIN + "one 5 012", 28);
        fault(PLAIN + "one 5 5 555;", 30);
        fault(PLAIN + "carpet 006;", 29);
        fault("house 0 0 0 0 0 0 0 " + "0".repeat(130), 20);
    }

    // "blanks (32), any number, ahead of, between and behind TOKENS (needed only between two words, two numbers)"
    private static void blanks() {
        StairManners x = reads("house0 0 0 0 0 0 0 5;one1 5;knows0 3;at0 2;carpet6;minutes9;", 6);
        Due.is("6: without blanks", x.of(0, 3) + x.count(1), 17);
        reads(" house 0 0 0 0 0 0 0 0 ; one 1 5 ; ", 2);
        reads("     house     0     0  0   0 0 0 0 0     ;     one     1     5     ;     ", 2);
        reads("house 1 0 0 0 0 0 0 0;", 1);
        fault("house 00 0 0 0 0 0 0;", 20);
        fault("house 10 0 0 0 0 0 0 0;", 6);
        fault("houseone0 0 0 0 0 0 0 0;", 0);
        fault(PLAIN + "one 0  ", 29);
        fault(PLAIN + "o ne 0 5;", 22);
        fault(PLAIN + "one 0 1 2;", 30);
        fault(PLAIN + "one 015;", 26);
        fault("house\t0 0 0 0 0 0 0 0;", 5);
    }

    // FAULT: "a word that is none"
    private static void words() {
        List<String> none = Arrays.asList("hous", "houses", "ouse", "on", "ones", "ne", "know", "knowss", "nows", "carpe", "carpets",
            "arpet", "a", "att", "t", "minute", "minutess", "inutes",
            "mouse", "housf", "pne", "onf", "bnows", "knowt", "tarpet", "carpeu", "bt", "au", "ninutes", "minutet", "step", "guest", "plain", "z", "az", "ona", "oneone");
        for (String word : none) {
            fault(word + " 0 0 0 0 0 0 0 0;", 0);
            fault(PLAIN + word + " 0 5;", 22);
            fault(ONE + " " + word, 31);
        }
        reads(ONE + "knows 0 0;carpet 0;at 0 0;minutes 1;one 0 5;", 7);
        fault(PLAIN + "One 0 5;", 22);
        fault("HOUSE 0 0 0 0 0 0 0 0;", 0);
        fault("housE 0 0 0 0 0 0 0 0;", 0);
    }

    // FAULT: ".. a byte that begins none, too": all but a .. z, 0 .. 9, ; and 32.
    private static void bytesThatBeginNone() {
        for (int c = 0; c < 128; c++) {
            boolean letter = c >= 97 && c <= 122;
            boolean figure = c >= 48 && c <= 57;
            if (letter || figure || c == 59) {
                fault(PLAIN + (char) c, 22);
            } else if (c == 32) {
                reads(PLAIN + (char) c, 1);
            } else {
                fault(PLAIN + (char) c, 22);
                fault((char) c + PLAIN, 0);
                fault("house" + (char) c + PLAIN, 5);
                fault("house 0" + (char) c + PLAIN, 7);
                fault("house 0 0 0 0 0 0 0 0" + (char) c + ";", 21);
                fault(PLAIN + "one 0 " + (char) c + "5;", 28);
            }
        }
    }

    // "ITEMS, each ended by ;"
    private static void itemsEndBySemicolon() {
        reads(ONE, 2);
        fault(PLAIN + ";", 22);
        fault(ONE + " ;", 31);
        fault("house 0 0 0 0 0 0 0 0 one 0 5;", 22);
        fault("house 0 0 0 0 0 0 0 0one 0 5;", 21);
        fault(PLAIN + "one 0 5 at 0 0;", 30);
        fault(PLAIN + "carpet 0 carpet 1;", 31);
        fault(PLAIN + "minutes;1", 29);
        fault(PLAIN + "one;0 5;", 25);
        fault(PLAIN + "one 0;5;", 27);
        fault("house;", 5);
        fault("house 0 0 0 0 0 0 0;0;", 19);
    }

    // FAULT: ".. of the first TOKEN that can not stand there"
    private static void firstFaultOfSome() {
        fault("house 0 0 6 0 0 7 0 0;one 9 99;", 10);
        fault(PLAIN + "one 6 13;", 26);
        fault(PLAIN + "one 0 13;one 9 0;", 28);
        fault(PLAIN + "knows 0 9;", 28);
        fault(PLAIN + "one 0 5 A", 30);
        fault(PLAIN + "one 0 5 000", 30);
        fault(PLAIN + "carpet 7", 29);
        fault(PLAIN + "minutes 0", 30);
    }

    // "A HOUSE that is read takes the place of all but IMAGES, THE TEXT, THE FRACTION, STATUS"
    private static void takesThePlaceOfAll() {
        Consumer<StairManners> full = Edge::limits;
        StairManners x = Edge.taken("6: a HOUSE of nobody", full.andThen(typed(PLAIN)), 1, "read");
        int[] due = {0, 0, 0, 0, 0, 0, 0, 0, 0, 22};
        for (int what = 0; what <= 9; what++) {
            Due.is("6: count(" + what + ") behind it", x.count(what), due[what]);
        }
        for (int s = 0; s < 8; s++) {
            Due.is("6: KIND of " + s, x.about(s, 0), 0);
        }
        Due.is("6: nothing to undo", x.undo(), -3);
        Due.is("6: THE FRACTION stays", x.part(0) * 100 + x.part(1), 710);
        Due.is("6: one comes as the first", x.one(0, 1), 0);
        Due.is("6: of whom nothing is there", x.of(0, 3) + x.may(0, 0) + x.kinds(0) + x.is(0), 256 + 63 + 63);
        Due.is("6: the first IMAGE stays", x.from(0) + x.count(1), 397);
        Due.is("6: the second IMAGE stays", x.from(1) + x.count(1), 9877);
        Due.is("6: with its SEEN ones, NOTES, MARKS", x.count(5) + x.count(6) + x.count(7), 18);
        fault(PLAIN + "one 0 0;", 28);
    }
}
