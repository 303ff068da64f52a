/** Promises 33 to 38: what there is. */
public final class WhatThereIsTest {
    private static final String SOME = "house 5 4 3 2 1 0 5 4;one 1 8;one 3 1;knows 0 0;knows 1 6;carpet 3;carpet 6;at 1 8;minutes 7;";

    public static void main(String[] args) {
        part();
        image();
        imageIsKeptApart();
        imageKeepsWhatMayBeUndone();
        from();
        status();
        count();
        digest();
        digestOfAll();
        Due.finish();
    }

    // Promise 33
    private static void part() {
        StairManners x = new StairManners();
        Due.is("33: above at first", x.part(0), 0);
        Due.is("33: below at first", x.part(1), 1);
        Due.is("33: part(-1)", x.part(-1), -2);
        Due.is("33: part(2)", x.part(2), -2);
        Due.is("33: counted as BAD", x.status(0), 2);
    }

    // Promises 34 and 35
    private static void image() {
        StairManners x = Due.house(SOME);
        Due.is("34: image(-1)", x.image(-1), -2);
        Due.is("34: image(2)", x.image(2), -2);
        Due.is("35: from(-1)", x.from(-1), -2);
        Due.is("35: from(2)", x.from(2), -2);
        Due.is("35: none was kept", x.from(0), -3);
        Due.is("35: none was kept", x.from(1), -3);
        Due.is("34: image(0)", x.image(0), 1);
        Due.is("35: another was not kept", x.from(1), -3);
        Due.is("34, 35: counted as BAD", x.status(0), 4);
        Due.is("35: counted as NO", x.status(1), 3);
        long digest = x.digest();
        x.house();
        Due.is("35: from(0)", x.from(0), 1);
        Due.is("35: as it was", x.digest(), digest);
    }

    private static void imageIsKeptApart() {
        StairManners x = Due.house(SOME);
        x.waits(1);
        x.seen(0, 1, 1);
        x.note(0, 1, 1, 1);
        x.mark(0, 1, 1, 1);
        long first = x.digest();
        x.image(0);
        x.step(0, 0);
        x.carpet(0, 1);
        x.one(0, 12);
        x.meets(2, 0);
        x.goes(0, 1);
        x.seen(2, 7, 0);
        x.note(7, 7, 7, 7);
        x.mark(2, 7, 7, 7);
        x.waits(60);
        long second = x.digest();
        x.image(1);
        x.from(0);
        Due.is("35: the first IMAGE", x.digest(), first);
        x.waits(9);
        x.forget(0);
        x.forget(1);
        x.forget(2);
        x.from(1);
        Due.is("35: the second IMAGE", x.digest(), second);
        x.from(0);
        Due.is("35: the first IMAGE, twice", x.digest(), first);
        Due.is("35: of its people", x.of(2, 0), -10);
        x.waits(3);
        x.image(0);
        x.waits(3);
        x.from(0);
        Due.is("34: an IMAGE takes the place of the one ahead", x.count(1), 11);
    }

    private static void imageKeepsWhatMayBeUndone() {
        StairManners x = Due.house(SOME);
        for (int k = 0; k < 10; k++) {
            x.waits(1);
        }
        x.image(1);
        for (int k = 0; k < 5; k++) {
            x.waits(50);
        }
        x.one(0, 1);
        x.from(1);
        Due.is("35: what may be undone", x.count(8), 8);
        for (int k = 16; k >= 9; k--) {
            Due.is("35: undo", x.undo(), k);
        }
        Due.is("35: no more", x.undo(), -3);
        x.from(1);
        Due.is("35: again", x.undo(), 16);
    }

    private static void from() {
        StairManners x = Due.house("house 0 0 0 0 0 0 0 0;one 0 1;one 0 1;knows 1 0;");
        x.image(0);
        x.slips(0, 0, 3);
        x.clear();
        x.type(65);
        x.word(77);
        x.from(0);
        Due.is("35: THE FRACTION stays", x.part(0) * 100 + x.part(1), 710);
        Due.is("35: THE TEXT stays", x.count(9), 1);
        Due.is("35: STATUS stays", x.status(0), 1);
        x.seen(1, 7, 0);
        x.note(3, 6, 0, 1);
        x.mark(1, 0, 0, 2);
        x.image(1);
        x.forget(0);
        x.forget(1);
        x.forget(2);
        x.seen(0, 0, 1);
        x.note(4, 1, 1, 0);
        x.mark(0, 8, 8, 9);
        x.from(1);
        Due.is("35: the IMAGE's SEEN", x.may(1, 1), 255);
        Due.is("35: the IMAGE's NOTES", x.is(3), 17);
        Due.is("35: the IMAGE's MARKS", x.kinds(1), 42);
        Due.is("35: none of what came later", x.may(0, 0) + x.is(4) + x.kinds(0), 256 + 63 + 63);
    }

    // Promise 36
    private static void status() {
        StairManners x = new StairManners();
        Due.is("36: status(-1)", x.status(-1), -1);
        Due.is("36: status(3)", x.status(3), -1);
        Due.is("36: they count as BAD", x.status(0), 2);
        for (int k = 0; k < 7; k++) {
            x.one(0, 1);
        }
        Due.is("36: FULL", x.status(2), 1);
        x.undo();
        x.carpet(0, 0);
        Due.is("36: NO", x.status(1), 2);
        // One call of each that answers BAD in its own way.
        x.goes(9, 0);
        x.of(9, 0);
        x.high(9);
        x.plan(9, 0, 0);
        x.part(9);
        x.count(10);
        x.look(8);
        Due.is("36: BAD, however it is told", x.status(0), 9);
        Due.is("36: -6 is no refusal", x.plan(0, 0, -2), -6);
        Due.is("36: a fault is no refusal", x.read(), -10);
        Due.is("36: asking of STATUS changes nothing", x.status(0) + x.status(1) + x.status(2), 12);
    }

    // Promise 37
    private static void count() {
        StairManners x = Due.house(SOME);
        x.waits(1);
        x.carpet(0, 1);
        x.seen(0, 1, 1);
        x.note(0, 1, 1, 1);
        x.note(0, 1, 1, 1);
        x.mark(0, 1, 1, 1);
        x.mark(0, 1, 1, 1);
        x.mark(0, 1, 1, 1);
        int[] due = {2, 8, 3, 3, 1, 1, 2, 3, 2, SOME.length()};
        for (int what = 0; what < due.length; what++) {
            Due.is("37: count(" + what + ")", x.count(what), due[what]);
        }
        StairManners top = Due.house("house 0 0 0 0 0 0 0 0;one 0 1;one 0 1;one 0 1;one 0 1;one 0 1;one 0 1;at 0 8;at 5 8;at 1 7;");
        Due.is("37: at the top the first and the last", top.count(4), 2);
        Due.is("37: count(-1)", x.count(-1), -2);
        Due.is("37: count(10)", x.count(10), -2);
        Due.is("37: counted as BAD", x.status(0), 2);
    }

    private static long folded(long... values) {
        long h = 1571;
        for (long v : values) {
            h = 31 * h + v;
        }
        return h;
    }

    // Promise 38
    private static void digest() {
        Due.is("38: at first", new StairManners().digest(), folded(0, 0, 0, 0, 0, 0, 0, 0, 0, 0,
            0, 0, 0, 0, 0, 0, 0, 0, 0, 0, 1));
        StairManners x = new StairManners();
        x.one(5, 12);
        Due.is("38: one in the hall", x.digest(), folded(1, 0, 0, 0, 0, 0, 0, 0, 0, 0,
            0, 0, 0, 0, 0, 0, 0, 0, 0, 5, 12, -1, 0, 0, 1));
    }

    private static void digestOfAll() {
        StairManners x = Due.house(SOME);
        x.waits(1);
        x.seen(0, 1, 1);
        x.seen(1, 7, 0);
        x.note(5, 12, 23, 9);
        x.mark(1, -1, 22, 8);
        x.mark(0, 8, 21, 7);
        x.slips(1, 0, 3);
        Due.is("38: all of it", x.digest(), folded(2, 8, 3, 2, 1, 2, 1, 2, 1, SOME.length(),
            5, 4, 3, 2, 1, 0, 5, 4, 8 + 64,
            1, 8, -1, 1, 3, 1, 8, 64 + 128,
            0, 1, 1, 1, 7, 0,
            5, 12, 23, 9,
            1, -1, 22, 8, 0, 8, 21, 7,
            x.part(0), x.part(1)));
        long digest = x.digest();
        x.word(9);
        x.image(0);
        Due.is("38: neither STATUS nor IMAGES are in it", x.digest(), digest);
    }
}
