/** Promises 1 to 6: a house. */
public final class HouseTest {
    private static final String PLAIN = "house 0 0 0 0 0 0 0 0;";

    public static void main(String[] args) {
        newObject();
        houseAgain();
        oneComes();
        text();
        textIsFull();
        readItems();
        readTakesThePlaceOfAll();
        readBlanks();
        readMinutesWhereTheyStand();
        faults();
        faultsOfNumbers();
        faultLeavesAll();
        Due.finish();
    }

    // Promise 1
    private static void newObject() {
        StairManners x = new StairManners();
        for (int what = 0; what <= 9; what++) {
            Due.is("1: count(" + what + ")", x.count(what), 0);
        }
        for (int s = 0; s < 8; s++) {
            Due.is("1: kind of step " + s, x.about(s, 0), 0);
            Due.is("1: who knows step " + s, x.about(s, 1), 0);
            Due.is("1: carpet from step " + s, x.about(s, 2), 0);
        }
        Due.is("1: part(0)", x.part(0), 0);
        Due.is("1: part(1)", x.part(1), 1);
        for (int what = 0; what < 3; what++) {
            Due.is("1: status(" + what + ")", x.status(what), 0);
        }
        Due.is("1: nobody", x.word(0), -2);
    }

    // Promise 2
    private static void houseAgain() {
        StairManners x = Due.house("house 1 2 3 4 5 0 1 2;one 1 8;one 0 3;knows 0 0;carpet 3;at 1 4;minutes 7;");
        x.seen(0, 1, 1);
        x.note(0, 1, 0, 1);
        x.mark(0, 0, 0, 1);
        x.waits(3);
        x.slips(0, 1, 0);
        x.slips(1, 0, 3);
        long above = x.part(0);
        long below = x.part(1);
        x.image(1);
        x.word(9);
        x.carpet(0, 0);
        int bytes = x.count(9);
        Due.is("2: house()", x.house(), 2);
        Due.is("2: house() again", x.house(), 0);
        for (int what = 0; what <= 8; what++) {
            Due.is("2: count(" + what + ") behind house()", x.count(what), 0);
        }
        Due.is("2: THE TEXT stays", x.count(9), bytes);
        Due.is("2: THE FRACTION's above stays", x.part(0), above);
        Due.is("2: THE FRACTION's below stays", x.part(1), below);
        Due.is("2: STATUS of BAD stays", x.status(0), 1);
        Due.is("2: STATUS of NO stays", x.status(1), 1);
        for (int s = 0; s < 8; s++) {
            Due.is("2: kind of " + s, x.about(s, 0), 0);
        }
        Due.is("2: nothing to undo", x.undo(), -3);
        Due.is("2: one comes anew", x.one(5, 12), 0);
        Due.is("2: in the hall", x.of(0, 2), -1);
        Due.is("2: knows nothing", x.of(0, 3), 0);
        Due.is("2: an IMAGE stays", x.from(1), 1);
        Due.is("2: it goes on from the IMAGE", x.count(0), 2);
        Due.is("2: with what may be undone", x.count(8), 1);
    }

    // Promise 3
    private static void oneComes() {
        StairManners x = new StairManners();
        int[][] wrong = {{-1, 1}, {6, 1}, {0, 0}, {0, 13}, {Integer.MIN_VALUE, 5}, {5, Integer.MAX_VALUE}};
        for (int[] w : wrong) {
            Due.is("3: one(" + w[0] + ", " + w[1] + ")", x.one(w[0], w[1]), -2);
        }
        Due.is("3: BAD ones are counted", x.status(0), wrong.length);
        for (int i = 0; i < 6; i++) {
            x.waits(1);
            Due.is("3: may be undone ahead of the " + i + "-th", x.count(8), 1);
            Due.is("3: one(" + i + ", ..)", x.one(i, 12 - i), i);
            Due.is("3: behind one that comes none may be undone", x.count(8), 0);
            Due.is("3: undo behind one that comes", x.undo(), -3);
            Due.is("3: kind", x.of(i, 0), i);
            Due.is("3: weight", x.of(i, 1), 12 - i);
            Due.is("3: where", x.of(i, 2), -1);
            Due.is("3: knows", x.of(i, 3), 0);
        }
        x.waits(1);
        Due.is("3: a 7th", x.one(0, 1), -4);
        Due.is("3: a 7th that is BAD", x.one(0, 0), -2);
        Due.is("3: FULL is counted", x.status(2), 1);
        Due.is("3: one refused leaves what may be undone", x.count(8), 1);
        Due.is("3: six", x.count(0), 6);
    }

    // Promises 4 and 5
    private static void text() {
        StairManners x = new StairManners();
        Due.is("4: type(-1)", x.type(-1), -2);
        Due.is("4: type(128)", x.type(128), -2);
        Due.is("5: clear() of an empty one", x.clear(), 0);
        Due.is("4: type(0)", x.type(0), 1);
        Due.is("4: type(127)", x.type(127), 2);
        Due.is("4: bytes", x.count(9), 2);
        Due.is("5: clear()", x.clear(), 2);
        Due.is("5: bytes behind it", x.count(9), 0);
        Due.is("4: type(32) behind it", x.type(32), 1);
        Due.is("4: BAD is counted", x.status(0), 2);
    }

    private static void textIsFull() {
        StairManners x = new StairManners();
        String head = "house 0 0 0 0 0 0 0 0";
        StringBuilder text = new StringBuilder(head);
        while (text.length() < 149) {
            text.append(' ');
        }
        text.append(';');
        Due.is("4, 6: a text of 150 bytes", Due.read(x, text.toString()), 1);
        Due.is("4: a 151st byte", x.type(32), -4);
        Due.is("4: a 151st byte that is BAD", x.type(128), -2);
        Due.is("4: FULL is counted", x.status(2), 1);
        Due.is("4: 150 bytes", x.count(9), 150);
        Due.is("6: THE TEXT stays when it is read", x.read(), 1);
        text.setCharAt(149, ' ');
        Due.is("6: 150 bytes that end too early", Due.read(x, text.toString()), -160);
        Due.is("5: clear() of a full one", x.clear(), 150);
        StringBuilder bytes = new StringBuilder(PLAIN);
        for (int k = 0; k < 12; k++) {
            bytes.append("minutes99;");
        }
        Due.is("6: as many minutes as a text can tell", Due.read(x, bytes.toString()), 13);
        Due.is("6: the minute then", x.count(1), 1188);
    }

    // Promise 6
    private static void readItems() {
        StairManners x = Due.house("house 0 1 2 3 4 5 0 1;one 1 8;one 5 12;one 0 1;"
            + "knows 0 7;knows 0 7;knows 2 0;carpet 6;carpet 0;carpet 0;at 0 8;at 1 0;at 1 3;minutes 99;");
        Due.is("6: items", x.read(), 14);
        int[] kinds = {0, 1, 2, 3, 4, 5, 0, 1};
        for (int s = 0; s < 8; s++) {
            Due.is("6: kind of " + s, x.about(s, 0), kinds[s]);
        }
        Due.is("6: people", x.count(0), 3);
        Due.is("6: kind of one", x.of(1, 0), 5);
        Due.is("6: weight of one", x.of(1, 1), 12);
        Due.is("6: at the top", x.of(0, 2), 8);
        Due.is("6: the last place told", x.of(1, 2), 3);
        Due.is("6: in the hall, if nothing is told", x.of(2, 2), -1);
        Due.is("6: knows", x.of(0, 3), 128);
        Due.is("6: knows none", x.of(1, 3), 0);
        Due.is("6: carpets", x.count(3), 2);
        Due.is("6: a carpet to a proud one tells nothing", x.of(2, 3), 1);
        Due.is("6: minute", x.count(1), 99);
    }

    private static void readTakesThePlaceOfAll() {
        StairManners x = Due.house("house 0 0 0 0 0 0 0 5;one 1 8;one 1 8;knows 0 0;carpet 3;minutes 5;");
        x.slips(1, 0, 1);
        x.seen(0, 0, 0);
        x.note(0, 1, 1, 1);
        x.mark(0, 1, 1, 1);
        x.waits(1);
        x.image(0);
        x.word(-1);
        Due.is("6: read", Due.read(x, PLAIN), 1);
        int[] due = {0, 0, 0, 0, 0, 0, 0, 0, 0, PLAIN.length()};
        for (int what = 0; what <= 9; what++) {
            Due.is("6: count(" + what + ") behind a house read", x.count(what), due[what]);
        }
        Due.is("6: kind of the last step", x.about(7, 0), 0);
        Due.is("6: nothing to undo", x.undo(), -3);
        Due.is("6: THE FRACTION stays", x.part(0), 9);
        Due.is("6: STATUS stays", x.status(0), 1);
        Due.is("6: the IMAGE stays", x.from(0), 1);
        Due.is("6: the IMAGE's people", x.count(0), 2);
        Due.is("6: the IMAGE's SEEN", x.count(5), 1);
    }

    private static void readBlanks() {
        StairManners x = new StairManners();
        Due.is("6: blanks only where they must be", Due.read(x, "house0 0 0 0 0 0 0 0;one1 5;knows0 3;at0 2;carpet6;"), 5);
        Due.is("6: knows", x.of(0, 3), 8);
        Due.is("6: blanks everywhere", Due.read(x, "   house  00 01 2   3 4 5 05 0 ;  one  0   12  ;  "), 2);
        Due.is("6: 05 is 5", x.about(6, 0), 5);
        Due.is("6: 01 is 1", x.about(1, 0), 1);
        Due.is("6: weight", x.of(0, 1), 12);
    }

    private static void readMinutesWhereTheyStand() {
        StairManners x = Due.house("house 0 0 0 4 0 0 1 0;one 0 1;carpet 0;carpet 1;minutes 9;knows 0 0;minutes 1;carpet 2;");
        Due.is("6: one minute told the name on by one step", x.of(0, 3), 3);
        Due.is("6: minutes add up", x.count(1), 10);
        Due.is("6: minutes can not be undone", x.count(8), 0);
    }

    private static void fault(String text, int place) {
        StairManners x = new StairManners();
        Due.is("6: read of '" + text + "'", Due.read(x, text), -10 - place);
        Due.is("6: a fault is no refusal", x.status(0) + x.status(1) + x.status(2), 0);
    }

    private static void faults() {
        fault("", 0);
        fault("    ", 4);
        fault("house", 5);
        fault("house 0 0 0", 11);
        fault("house 0 0 0 0 0 0 0 0", 21);
        fault("house 0 0 0 0 0 0 0 0  ", 23);
        fault(PLAIN + "one", 25);
        fault(PLAIN + "one 0 5", 29);
        fault(" hous 0 0 0 0 0 0 0 0;", 1);
        fault("mouse 0 0 0 0 0 0 0 0;", 0);
        fault("0 0 0 0 0 0 0 0 0;", 0);
        fault("house 0A0 0 0 0 0 0 0;", 7);
        fault("house 0 0 at 0 0 0 0 0;", 10);
        fault(PLAIN + "pne 0 5;", 22);
        fault(PLAIN + "one at 5;", 26);
        fault(PLAIN + "one 0 at;", 28);
        fault(PLAIN + "3 0 5;", 22);
        fault("houses 0 0 0 0 0 0 0 0;", 0);
        fault("House 0 0 0 0 0 0 0 0;", 0);
        fault("one 0 5;" + PLAIN, 0);
        fault(";" + PLAIN, 0);
        fault("  7 " + PLAIN, 2);
        fault(PLAIN + PLAIN, 22);
        fault(PLAIN + "one 0 5;" + PLAIN, 30);
        fault(PLAIN + ";", 22);
        fault(PLAIN + " stair 1;", 23);
        fault(PLAIN + "on 0 5;", 22);
        fault(PLAIN + "ones 0 5;", 22);
        fault(PLAIN + "one 0 5 5;", 30);
        fault(PLAIN + "one 0;", 27);
        fault(PLAIN + "one 0 5 one 0 5;", 30);
        fault(PLAIN + "one zero 5;", 26);
        fault(PLAIN + "one 0 house;", 28);
        fault(PLAIN + "one 0 5\n;", 29);
        fault(PLAIN + "one 0,5;", 27);
        fault(PLAIN + "one 0 -5;", 28);
        fault(PLAIN + "one 0 5;" + "\t", 30);
        fault(PLAIN + (char) 0, 22);
        fault("house 0 0 0 0 0 0 0;", 19);
        fault("house 0 0 0 0 0 0 0 0 0;", 22);
        StringBuilder six = new StringBuilder(PLAIN);
        for (int k = 0; k < 6; k++) {
            six.append("one 0 5;");
        }
        StairManners x = Due.house(six + "at 5 8;knows 5 7;");
        Due.is("6: where the 6th is", x.of(5, 2), 8);
        Due.is("6: what the 6th knows", x.of(5, 3), 128);
        fault(six + " one", 71);
        fault(six + "one 0 5;", 70);
        fault(six + "knows 6 0;", 76);
    }

    private static void faultsOfNumbers() {
        fault("house 6 0 0 0 0 0 0 0;", 6);
        fault("house 0 0 0 0 0 0 0 6;", 20);
        fault("house 000 0 0 0 0 0 0 0;", 6);
        fault("house 0 0 0 0 0 0 0 001", 20);
        fault(PLAIN + "one 6 5;", 26);
        fault(PLAIN + "one 0 0;", 28);
        fault(PLAIN + "one 0 13;", 28);
        fault(PLAIN + "one 0 005;", 28);
        fault(PLAIN + "one 0 5 123;", 30);
        fault(PLAIN + "knows 0 0;", 28);
        fault(PLAIN + "at 0 0;", 25);
        fault(PLAIN + "one 0 5;knows 1 0;one 0 5;", 36);
        fault(PLAIN + "one 0 5;knows 0 8;", 38);
        fault(PLAIN + "one 0 5;at 1 0;", 33);
        fault(PLAIN + "one 0 5;at 0 9;", 35);
        fault(PLAIN + "carpet 7;", 29);
        fault(PLAIN + "carpet;", 28);
        fault(PLAIN + "minutes 0;", 30);
        fault(PLAIN + "minutes 00;", 30);
        fault(PLAIN + "minutes 100;", 30);
        fault(PLAIN + "minutes 1 1;", 32);
    }

    private static void faultLeavesAll() {
        StairManners x = Due.house("house 5 4 3 2 1 0 5 4;one 1 8;one 3 1;knows 0 0;carpet 3;at 1 4;minutes 7;");
        x.waits(2);
        x.seen(1, 2, 0);
        String wrong = "house 0 0 0 0 0 0 0 0;one 2 2;knows 0 1;carpet 1;at 0 1;minutes 9;one 0 0;";
        x.clear();
        for (int k = 0; k < wrong.length(); k++) {
            x.type(wrong.charAt(k));
        }
        long ahead = x.digest();
        Due.is("6: read with a fault at the end", x.read(), -10 - 72);
        Due.is("6: all stays", x.digest(), ahead);
        Due.is("6: what may be undone stays", x.undo(), 7);
    }
}
