/** Promises 7 to 14: minutes. */
public final class MinutesTest {
    private static final int LAST = 9999;

    public static void main(String[] args) {
        meets();
        meetsByWords();
        meetsByCarpet();
        goes();
        goesRefused();
        waits();
        lastMinute();
        carpet();
        carpetsAtOnce();
        carpetsToKinds();
        step();
        undo();
        undoOfEach();
        of();
        about();
        Due.finish();
    }

    /** An object whose minute is the last one. */
    private static StairManners late(String text) {
        StairManners x = Due.house(text);
        while (x.count(1) < LAST) {
            x.waits(60);
        }
        return x;
    }

    // Promise 7
    private static void meets() {
        StairManners x = Due.house("house 4 0 0 0 0 0 0 0;one 1 5;one 0 6;");
        int[][] wrong = {{-1, 0}, {2, 0}, {6, 0}, {0, -1}, {0, 8}, {0, Integer.MIN_VALUE}};
        for (int[] w : wrong) {
            Due.is("7: meets(" + w[0] + ", " + w[1] + ")", x.meets(w[0], w[1]), -2);
        }
        Due.is("7: refused, no minute goes by", x.count(1), 0);
        Due.is("7: refused, nothing to undo", x.count(8), 0);
        Due.is("7: nobody speaks for one", x.meets(1, 0), 0);
        Due.is("7: a minute all the same", x.count(1), 1);
        Due.is("7: that may be undone", x.count(8), 1);
        Due.is("7: a gentle one wants nothing of 5", x.meets(0, 0), 1);
        Due.is("7: known", x.of(0, 3), 1);
        Due.is("7: a minute", x.count(1), 2);
        Due.is("7: known already", x.meets(0, 0), -3);
        Due.is("7: no minute then", x.count(1), 2);
        Due.is("7: NO is counted", x.status(1), 1);
        Due.is("7: one butler's word is enough for 6", x.meets(1, 0), 1);
        Due.is("7: one's own word is none", x.meets(0, 1), 0);
    }

    private static void meetsByWords() {
        // Step 0 is proud: it wants 2. Guests' words are 1 each.
        StairManners x = Due.house("house 1 5 3 0 0 0 0 0;one 0 1;one 0 1;one 0 1;one 0 12;"
            + "knows 0 0;knows 0 1;knows 1 1;knows 2 1;knows 0 2;knows 1 2;");
        Due.is("7: 1 is less than 2", x.meets(2, 0), 0);
        x.undo();
        Due.is("7: marble wants 5 of 12", x.meets(3, 1), 0);
        x.undo();
        Due.is("7: a seventh wants 2 in minute 0", x.meets(2, 2), 1);
        x.undo();
        x.waits(1);
        Due.is("7: a seventh wants 4 in minute 1", x.meets(2, 2), 0);
    }

    private static void meetsByCarpet() {
        StairManners x = Due.house("house 0 0 4 0 0 0 0 0;one 0 9;one 0 9;knows 0 0;carpet 0;carpet 1;knows 1 1;");
        Due.is("7: carpets tell all at once, so by one step", x.meets(0, 2), 0);
        Due.is("7: from 0 to 1", x.of(0, 3), 3);
        x = Due.house("house 0 0 0 0 0 0 0 0;one 0 9;one 0 9;knows 0 0;carpet 0;");
        Due.is("7: nobody's word, but a carpet", x.meets(0, 1), 1);
        x = Due.house("house 4 4 0 0 0 0 0 0;one 0 5;carpet 0;");
        Due.is("7: one who is introduced", x.meets(0, 0), 1);
        Due.is("7: is told on in that minute", x.of(0, 3), 3);
    }

    // Promise 8
    private static void goes() {
        StairManners x = Due.house("house 0 0 0 0 0 0 0 0;one 0 1;one 3 1;knows 0 0;knows 0 1;at 1 6;knows 1 7;");
        Due.is("8: up to step 0", x.goes(0, 1), 0);
        Due.is("8: up to step 1", x.goes(0, 1), 1);
        Due.is("8: not borne", x.goes(0, 1), 1);
        Due.is("8: three minutes", x.count(1), 3);
        Due.is("8: all may be undone", x.count(8), 3);
        Due.is("8: down", x.goes(0, 0), 0);
        Due.is("8: down to the hall", x.goes(0, 0), -1);
        Due.is("8: five minutes", x.count(1), 5);
        Due.is("8: up to step 7", x.goes(1, 1), 7);
        Due.is("8: up to the top in any case", x.goes(1, 1), 8);
        Due.is("8: at the top", x.count(4), 1);
        Due.is("8: down from the top", x.goes(1, 0), 7);
        Due.is("8: down to one not known", x.goes(1, 0), 6);
        Due.is("8: and on", x.goes(1, 0), 5);
        x = Due.house("house 0 0 0 0 0 0 0 0;one 0 1;knows 0 0;at 0 0;carpet 0;");
        Due.is("8: a carpet tells behind the going", x.goes(0, 1), 0);
        Due.is("8: then it bears", x.goes(0, 1), 1);
        x = Due.house("house 0 0 0 0 0 0 0 0;one 0 1;at 0 7;");
        Due.is("8: from step 7, not known, to the top", x.goes(0, 1), 8);
    }

    private static void goesRefused() {
        StairManners x = Due.house("house 0 0 0 0 0 0 0 0;one 0 1;one 0 1;at 1 8;");
        int[][] wrong = {{-1, 0}, {2, 1}, {0, -1}, {0, 2}, {6, 0}};
        for (int[] w : wrong) {
            Due.is("8: goes(" + w[0] + ", " + w[1] + ")", x.goes(w[0], w[1]), -10);
        }
        Due.is("8: counted as BAD", x.status(0), wrong.length);
        Due.is("8: down in the hall", x.goes(0, 0), -3);
        Due.is("8: up at the top", x.goes(1, 1), -3);
        Due.is("8: counted as NO", x.status(1), 2);
        Due.is("8: no minute", x.count(1), 0);
        Due.is("8: nothing to undo", x.count(8), 0);
    }

    // Promise 9
    private static void waits() {
        StairManners x = Due.house("house 0 0 0 0 0 0 0 0;one 0 1;one 0 1;knows 0 0;knows 1 0;carpet 0;carpet 1;");
        int[] wrong = {0, -1, 61, Integer.MAX_VALUE, Integer.MIN_VALUE};
        for (int n : wrong) {
            Due.is("9: waits(" + n + ")", x.waits(n), -2);
        }
        Due.is("9: nothing to undo", x.count(8), 0);
        Due.is("9: all know together", x.waits(1), 4);
        Due.is("9: all know together", x.waits(60), 6);
        Due.is("9: 61 minutes", x.count(1), 61);
        Due.is("9: 60 together are one that may be undone", x.count(8), 2);
        Due.is("9: undo", x.undo(), 1);
        Due.is("9: undo", x.undo(), 0);
    }

    private static void lastMinute() {
        StairManners x = late("house 0 4 0 0 0 0 0 0;one 0 1;one 0 1;knows 0 0;at 0 0;minutes 30;");
        Due.is("9: 9999 at most", x.count(1), LAST);
        x.one(0, 1);
        x.carpet(0, 1);
        Due.is("9: at 9999 none goes by, no carpet tells", x.waits(60), 1);
        Due.is("9: still one that may be undone", x.count(8), 2);
        Due.is("7: meets at 9999", x.meets(1, 0), -3);
        Due.is("8: goes up at 9999", x.goes(0, 1), -3);
        Due.is("8: goes down at 9999", x.goes(0, 0), -3);
        Due.is("8: BAD is first at 9999", x.goes(0, 2), -10);
        Due.is("10: a carpet at 9999", x.carpet(1, 1), 0);
        Due.is("11: a step at 9999", x.step(7, 1), 0);
        Due.is("15: could be introduced at 9999", x.asks(1, 0, 2), 1);
        Due.is("16: word at 9999", x.word(0), 1);
        Due.is("18: minutes go beyond 9999", x.hears(0, 1), 1);
        Due.is("19: minutes go beyond 9999", x.then(0, 2), 7);
        Due.is("20: minutes go beyond 9999", x.plan(1, 1, -2), 2);
        Due.is("32: minutes go beyond 9999", x.evenings(7, 60) > 1 ? 1 : 0, 1);
        Due.is("32: the minute stays", x.count(1), LAST);
        Due.is("12: undo of the step", x.undo(), LAST);
        Due.is("12: undo of a carpet", x.undo(), LAST);
        Due.is("12: undo of waiting without a minute", x.undo(), LAST);
        Due.is("12: undo of the first carpet", x.undo(), LAST);
        Due.is("12: no more", x.undo(), -3);
    }

    // Promise 10
    private static void carpet() {
        StairManners x = new StairManners();
        int[][] wrong = {{-1, 1}, {7, 1}, {0, -1}, {0, 2}};
        for (int[] w : wrong) {
            Due.is("10: carpet(" + w[0] + ", " + w[1] + ")", x.carpet(w[0], w[1]), -2);
        }
        Due.is("10: none is there to take", x.carpet(0, 0), -3);
        Due.is("10: nothing to undo", x.count(8), 0);
        for (int k = 0; k < 7; k++) {
            Due.is("10: laid", x.carpet(k, 1), 0);
            Due.is("10: laid already", x.carpet(k, 1), -3);
            Due.is("10: leads on", x.about(k, 2), 1);
        }
        Due.is("10: carpets", x.count(3), 7);
        Due.is("10: taken", x.carpet(3, 0), 1);
        Due.is("10: carpets", x.count(3), 6);
        Due.is("10: gone", x.about(3, 2), 0);
        Due.is("10: no minute", x.count(1), 0);
        Due.is("10: may be undone", x.count(8), 8);
        Due.is("10: NO is counted", x.status(1), 8);
    }

    private static void carpetsAtOnce() {
        StairManners x = Due.house("house 0 0 0 0 0 0 0 0;one 0 1;knows 0 0;"
            + "carpet 0;carpet 1;carpet 2;carpet 3;carpet 4;carpet 5;carpet 6;");
        int known = 1;
        for (int m = 1; m <= 9; m++) {
            x.waits(1);
            known = (known | known << 1) & 255;
            Due.is("9: one step a minute, minute " + m, x.of(0, 3), known);
        }
    }

    private static void carpetsToKinds() {
        for (int kind = 0; kind < 6; kind++) {
            StairManners x = Due.house("house 5 " + kind + " 0 0 0 0 0 0;one 0 1;knows 0 0;carpet 0;minutes 1;");
            Due.is("9: a carpet to kind " + kind, x.of(0, 3), kind == 0 || kind == 4 ? 3 : 1);
        }
    }

    // Promise 11
    private static void step() {
        StairManners x = Due.house("house 0 0 0 0 0 0 0 0;one 0 1;one 0 1;one 0 1;knows 0 3;knows 2 3;knows 2 4;at 2 3;");
        int[][] wrong = {{-1, 0}, {8, 0}, {0, -1}, {0, 6}};
        for (int[] w : wrong) {
            Due.is("11: step(" + w[0] + ", " + w[1] + ")", x.step(w[0], w[1]), -2);
        }
        Due.is("11: two knew it", x.step(3, 5), 2);
        Due.is("11: its kind", x.about(3, 0), 5);
        Due.is("11: nobody knows it", x.about(3, 1), 0);
        Due.is("11: another is known still", x.of(2, 3), 16);
        Due.is("11: who stands on it stays", x.of(2, 2), 3);
        Due.is("11: no minute", x.count(1), 0);
        Due.is("11: the same kind again", x.step(4, 0), 1);
        Due.is("11: nobody knows it", x.about(4, 1), 0);
        Due.is("11: both may be undone", x.count(8), 2);
    }

    // Promise 12
    private static void undo() {
        StairManners x = Due.house("house 0 0 0 0 0 0 0 0;one 0 1;");
        Due.is("12: none may be", x.undo(), -3);
        for (int k = 1; k <= 11; k++) {
            x.waits(k);
            Due.is("12: 8 at most", x.count(8), Math.min(k, 8));
        }
        int minute = 66;
        for (int k = 11; k > 3; k--) {
            minute -= k;
            Due.is("12: undo", x.undo(), minute);
        }
        Due.is("12: no 9th", x.undo(), -3);
        Due.is("12: NO is counted", x.status(1), 2);
        Due.is("12: the minute stays", x.count(1), 6);
    }

    private static void undoOfEach() {
        StairManners x = Due.house("house 4 0 0 0 0 0 0 0;one 0 1;one 0 1;knows 1 3;carpet 1;minutes 3;");
        long[] digests = new long[8];
        int k = 0;
        digests[k++] = x.digest();
        x.meets(0, 0);
        digests[k++] = x.digest();
        x.goes(0, 1);
        digests[k++] = x.digest();
        x.carpet(0, 1);
        digests[k++] = x.digest();
        x.carpet(1, 0);
        digests[k++] = x.digest();
        x.step(3, 2);
        digests[k++] = x.digest();
        x.meets(0, 7);
        digests[k++] = x.digest();
        x.waits(10);
        digests[k] = x.digest();
        Due.is("12: going told on by carpet", x.of(0, 3), 3);
        for (int back = 6; back >= 0; back--) {
            x.undo();
            Due.is("12: as ahead of the " + back + "-th", x.digest(), digests[back]);
        }
        Due.is("12: none may be", x.undo(), -3);
        x.meets(0, 0);
        x.seen(0, 1, 1);
        x.note(1, 1, 1, 1);
        x.mark(1, 1, 1, 1);
        x.slips(1, 3, 1);
        Due.is("12: undo", x.undo(), 3);
        Due.is("12: SEEN ones stay", x.count(5), 1);
        Due.is("12: NOTES stay", x.count(6), 1);
        Due.is("12: MARKS stay", x.count(7), 1);
    }

    // Promise 13
    private static void of() {
        StairManners x = Due.house("house 0 0 0 0 0 0 0 0;one 4 11;knows 0 0;knows 0 7;at 0 5;one 1 1;");
        int[] due = {4, 11, 5, 129};
        for (int what = 0; what < 4; what++) {
            Due.is("13: of(0, " + what + ")", x.of(0, what), due[what]);
        }
        Due.is("13: in the hall", x.of(1, 2), -1);
        int[][] wrong = {{-1, 0}, {2, 0}, {0, -1}, {0, 4}, {Integer.MAX_VALUE, 2}};
        for (int[] w : wrong) {
            Due.is("13: of(" + w[0] + ", " + w[1] + ")", x.of(w[0], w[1]), -10);
        }
        Due.is("13: counted as BAD", x.status(0), wrong.length);
    }

    // Promise 14
    private static void about() {
        StairManners x = Due.house("house 0 1 2 3 4 5 0 1;one 0 1;one 0 1;one 0 1;knows 0 5;knows 2 5;carpet 5;");
        Due.is("14: kind", x.about(5, 0), 5);
        Due.is("14: who knows it", x.about(5, 1), 5);
        Due.is("14: a carpet leads on", x.about(5, 2), 1);
        Due.is("14: none leads to it", x.about(6, 2), 0);
        Due.is("14: none leads on from 7", x.about(7, 2), 0);
        int[][] wrong = {{-1, 0}, {8, 0}, {0, -1}, {0, 3}};
        for (int[] w : wrong) {
            Due.is("14: about(" + w[0] + ", " + w[1] + ")", x.about(w[0], w[1]), -2);
        }
        Due.is("14: counted as BAD", x.status(0), wrong.length);
    }
}
