/** Promises 27 to 33: claim, fits, liars, mayWeigh, keep, again, count. */
public final class ClaimsSlotsTest {
    private static final Check CHECK = new Check();

    private static void due(String call, long want, long got) {
        CHECK.due(call, want, got);
    }

    public static void main(String[] args) {
        claim();
        fits();
        liars();
        mayWeigh();
        keepAndAgain();
        slotRefusals();
        count();
        CHECK.end("ClaimsSlotsTest");
    }

    /** Boat 0: 0 against 1; boat 1: 2 and 3 against 4; 5 waits. */
    private static FerriesLevel twoBoats() {
        FerriesLevel x = Check.ferry("B21180P1013P1023P1013P2013P3043P5053");
        x.lay(0, 0);
        x.lay(1, 1);
        due("14 leave()", 3, x.leave());
        x.lay(2, 0);
        x.lay(3, 0);
        x.lay(4, 1);
        due("14 leave()", 6, x.leave());
        return x;
    }

    private static void claim() {
        FerriesLevel x = Check.ferry("B21180P1013P1023");
        due("27 claim(0, 99)", 10, x.claim(0, 99));
        due("27 claim(0, 1)", 99, x.claim(0, 1));
        due("27 claim(0, 0)", FerriesLevel.OUTSIDE, x.claim(0, 0));
        due("27 claim(0, 100)", FerriesLevel.OUTSIDE, x.claim(0, 100));
        due("27 claim(0, -5)", FerriesLevel.OUTSIDE, x.claim(0, -5));
        due("27 claim(2, 100)", FerriesLevel.UNKNOWN, x.claim(2, 100));
        due("27 claim(-1, 5)", FerriesLevel.UNKNOWN, x.claim(-1, 5));
        due("27 claim(0, 5)", 1, x.claim(0, 5));
        due("27 the other's", 10, x.person(1, 4));
        due("27 best() is by weights", 3, x.best());
        x.lay(0, 0);
        due("27 weighs() is by weights", 10, x.weighs(0, 0));
    }

    private static void fits() {
        FerriesLevel x = twoBoats();
        due("28 fits()", 1, x.fits());
        x.claim(5, 1);
        due("28 fits(): one that waits", 1, x.fits());
        x.claim(0, 11);
        due("28 fits()", 0, x.fits());
        x.claim(1, 11);
        due("28 fits()", 1, x.fits());
        x.claim(3, 15);
        due("28 fits(): the second boat", 0, x.fits());
        x.claim(2, 15);
        due("28 fits()", 1, x.fits());
        x.gain(0, 1);
        due("28 fits() of no minutes", 1, x.fits());
        x.minutes(3);
        due("28 fits(): gains and minutes as they are now", 0, x.fits());
        x.gain(1, 1);
        due("28 fits()", 1, x.fits());
        FerriesLevel list = Check.ferry("B32125P0513P1013P1013");
        list.lay(0, 0);
        list.lay(1, 1);
        list.lay(2, 2);
        due("14 leave()", 3, list.leave());
        due("28 fits() with the list", 1, list.fits());
        list.claim(0, 10);
        due("28 fits() with the list", 0, list.fits());
        due("28 fits() of no boat", 1, new FerriesLevel().fits());
        FerriesLevel back = twoBoats();
        back.claim(4, 1);
        due("28 fits()", 0, back.fits());
        back.back();
        due("28 fits(): that boat is taken back", 1, back.fits());
    }

    private static void liars() {
        FerriesLevel x = twoBoats();
        due("29 liars(): they fit", 0, x.liars());
        x.claim(4, 35);
        due("29 liars()", 4 + 8 + 16, x.liars());
        due("29 nothing changed", 35, x.person(4, 4));
        due("29 nothing changed", 10, x.person(2, 4));
        x.claim(4, 99);
        due("29 liars(): 2 would say 79", 4 + 8 + 16, x.liars());
        x.claim(3, 1);
        x.claim(2, 1);
        due("29 liars(): 98 for each, too", 4 + 8 + 16, x.liars());
        x.claim(4, 1);
        due("29 liars(): 0 can not be claimed", 16, x.liars());
        x.claim(0, 11);
        due("29 liars(): two boats, no one alone", 0, x.liars());
        x.claim(4, 2);
        due("29 liars()", 1 + 2, x.liars());
        FerriesLevel arms = Check.ferry("B22380P3013P2013");
        arms.lay(0, 0);
        arms.lay(1, 1);
        due("14 leave()", 2, arms.leave());
        arms.claim(1, 21);
        due("29 liars(): 0 would say 31 and a half", 2, arms.liars());
        arms.claim(1, 22);
        due("29 liars()", 3, arms.liars());
        arms.claim(1, 99);
        due("29 liars(): beyond 99", 2, arms.liars());
    }

    private static void mayWeigh() {
        FerriesLevel x = twoBoats();
        due("30 mayWeigh(0)", 1, x.mayWeigh(0));
        due("30 mayWeigh(5): it waits", 99, x.mayWeigh(5));
        due("30 mayWeigh(6)", FerriesLevel.UNKNOWN, x.mayWeigh(6));
        due("30 mayWeigh(-1)", FerriesLevel.UNKNOWN, x.mayWeigh(-1));
        x.claim(4, 35);
        due("30 mayWeigh(0): the other boat does not fit", 0, x.mayWeigh(0));
        due("30 mayWeigh(5): they do not fit", 0, x.mayWeigh(5));
        due("30 mayWeigh(2)", 1, x.mayWeigh(2));
        x.claim(3, 35);
        due("30 mayWeigh(2): 0 can not be claimed", 0, x.mayWeigh(2));
        due("30 nothing changed", 10, x.person(2, 4));
        due("30 mayWeigh(0) of no boat", FerriesLevel.UNKNOWN, new FerriesLevel().mayWeigh(0));
        FerriesLevel edge = Check.ferry("B21180P9913P9913");
        edge.lay(0, 0);
        edge.lay(1, 1);
        edge.leave();
        due("30 mayWeigh(0) of 99", 1, edge.mayWeigh(0));
        edge.claim(1, 1);
        due("30 mayWeigh(0) of 1", 1, edge.mayWeigh(0));
        due("29 liars() of 1 and 99", 3, edge.liars());
        FerriesLevel gains = Check.ferry("B21180P1013P1013");
        gains.lay(0, 0);
        gains.lay(1, 1);
        gains.leave();
        gains.gain(0, -3);
        gains.minutes(9);
        due("30 mayWeigh(0): not level when it is there", 0, gains.mayWeigh(0));
        gains.gain(1, -3);
        due("30 mayWeigh(0)", 1, gains.mayWeigh(0));
    }

    private static void keepAndAgain() {
        FerriesLevel x = twoBoats();
        x.lay(5, 1);
        x.gain(5, 2);
        x.minutes(4);
        x.claim(5, 60);
        due("31 keep(0)", 2, x.keep(0));
        x.back();
        x.unlay(3);
        x.gain(5, -1);
        x.minutes(6);
        x.claim(5, 70);
        due("31 keep(1)", 1, x.keep(1));
        x.back();
        due("32 again(0)", 2, x.again(0));
        due("32 laid", 1, x.person(5, 5));
        due("32 gone", 20, x.person(3, 5));
        due("32 gain", 12, x.person(5, 3));
        due("32 minutes", 4, x.boat(5));
        due("32 claim", 60, x.person(5, 4));
        due("32 left(1, 0)", 4 + 8, x.left(1, 0));
        due("32 left(1, 1)", 16, x.left(1, 1));
        due("32 count(6)", 9, x.count(6));
        x.unlay(5);
        x.claim(5, 61);
        due("32 again(0) once more", 2, x.again(0));
        due("32 what is kept is not changed by calls", 1, x.person(5, 5));
        due("32 what is kept is not changed by calls", 60, x.person(5, 4));
        due("32 again(1)", 1, x.again(1));
        due("32 laid in 1", 0, x.person(2, 5));
        due("32 waits in 1", 10, x.person(3, 5));
        due("32 gain in 1", 9, x.person(5, 3));
        due("32 minutes in 1", 6, x.boat(5));
        due("32 claim in 1", 70, x.person(5, 4));
        x.minutes(8);
        due("31 keep(0) over what was kept", 1, x.keep(0));
        x.minutes(0);
        x.again(0);
        due("32 minutes kept over", 8, x.boat(5));
        x.gain(0, 3);
        x.claim(0, 33);
        x.keep(1);
        x.back();
        x.unlay(0);
        x.gain(0, 0);
        x.claim(0, 1);
        due("32 again(1) of the first", 1, x.again(1));
        due("32 gain of the first", 13, x.person(0, 3));
        due("32 claim of the first", 33, x.person(0, 4));
        due("32 the first boat", 1, x.left(0, 0));
        x.wipe();
        due("32 again(0): the text is not kept", 1, x.again(0));
        due("32 count(0)", 0, x.count(0));
    }

    private static void slotRefusals() {
        FerriesLevel x = Check.ferry("B21180P1013P1023");
        due("31 keep(2)", FerriesLevel.UNKNOWN, x.keep(2));
        due("31 keep(-1)", FerriesLevel.UNKNOWN, x.keep(-1));
        due("32 again(2)", FerriesLevel.UNKNOWN, x.again(2));
        due("32 again(-1)", FerriesLevel.UNKNOWN, x.again(-1));
        due("32 again(0)", FerriesLevel.STATE, x.again(0));
        due("31 keep(0)", 0, x.keep(0));
        due("32 again(1)", FerriesLevel.STATE, x.again(1));
        due("32 again(0)", 0, x.again(0));
        x.write(1, 'X');
        x.ferry();
        due("32 again(0) behind a ferry() that was refused", 0, x.again(0));
        x.wipe();
        Check.append(x, "B21180");
        x.ferry();
        due("32 again(0) behind ferry()", FerriesLevel.STATE, x.again(0));
    }

    private static void count() {
        FerriesLevel x = twoBoats();
        x.lay(5, 0);
        int[] want = {36, 6, 1, 1, 5, 2, 9};
        for (int what = 0; what < 7; what++) {
            due("33 count(" + what + ")", want[what], x.count(what));
        }
        x.back();
        int[] behind = {36, 6, 4, 3, 2, 1, 3};
        for (int what = 0; what < 7; what++) {
            due("33 count(" + what + ") behind back()", behind[what], x.count(what));
        }
        due("33 count(7)", FerriesLevel.OUTSIDE, x.count(7));
        due("33 count(-1)", FerriesLevel.OUTSIDE, x.count(-1));
        due("33 count(MAX)", FerriesLevel.OUTSIDE, x.count(Integer.MAX_VALUE));
    }
}
