/** Promises 10 to 16: lay, unlay, weighs, off, leave, back, left. */
public final class LaidLeftTest {
    private static final Check CHECK = new Check();

    private static void due(String call, long want, long got) {
        CHECK.due(call, want, got);
    }

    public static void main(String[] args) {
        lay();
        layRefuses();
        unlay();
        weighs();
        offOfTwoEnds();
        offOfThreeEnds();
        leave();
        leaveBehindMinutes();
        back();
        left();
        eightBoats();
        CHECK.end("LaidLeftTest");
    }

    private static void lay() {
        FerriesLevel x = Check.ferry("B31120P1013P1013P1010P1012P1013");
        due("10 lay(0, 0)", 1, x.lay(0, 0));
        due("10 lay(2, 0)", 2, x.lay(2, 0));
        due("10 lay(3, 2)", 1, x.lay(3, 2));
        due("10 lay(1, 1)", 1, x.lay(1, 1));
        due("10 count(3)", 4, x.count(3));
        due("10 count(2): laid ones wait", 5, x.count(2));
        due("10 lay(4, 0) where two sit", FerriesLevel.FULL, x.lay(4, 0));
        due("10 person(4, 5)", 10, x.person(4, 5));
        due("10 lay(4, 2)", 2, x.lay(4, 2));
    }

    private static void layRefuses() {
        FerriesLevel x = Check.ferry("B21110P1013P1013P1010P1011");
        due("10 lay(4, 0)", FerriesLevel.UNKNOWN, x.lay(4, 0));
        due("10 lay(-1, 0)", FerriesLevel.UNKNOWN, x.lay(-1, 0));
        due("10 lay(0, 2) of two ends", FerriesLevel.UNKNOWN, x.lay(0, 2));
        due("10 lay(0, 3)", FerriesLevel.UNKNOWN, x.lay(0, 3));
        due("10 lay(0, -1)", FerriesLevel.UNKNOWN, x.lay(0, -1));
        due("10 lay(2, 1): will not", FerriesLevel.STATE, x.lay(2, 1));
        due("10 lay(3, 0): will not", FerriesLevel.STATE, x.lay(3, 0));
        due("10 lay(0, 0)", 1, x.lay(0, 0));
        due("10 lay(0, 0) again", FerriesLevel.STATE, x.lay(0, 0));
        due("10 lay(0, 1) laid at 0", FerriesLevel.STATE, x.lay(0, 1));
        due("10 lay(3, 0): STATE ahead of FULL", FerriesLevel.STATE, x.lay(3, 0));
        due("10 lay(2, 0)", FerriesLevel.FULL, x.lay(2, 0));
        due("10 lay(0, 2): UNKNOWN ahead of STATE", FerriesLevel.UNKNOWN, x.lay(0, 2));
        due("10 lay(1, 1)", 1, x.lay(1, 1));
        due("10 leave()", 2, x.leave());
        due("10 lay(0, 0): gone", FerriesLevel.STATE, x.lay(0, 0));
        due("10 lay(2, 0) in the next", 1, x.lay(2, 0));
    }

    private static void unlay() {
        FerriesLevel x = Check.ferry("B31180P1013P1013P1013");
        due("11 unlay(0) not laid", FerriesLevel.STATE, x.unlay(0));
        x.lay(0, 0);
        x.lay(1, 1);
        x.lay(2, 2);
        due("11 unlay(1)", 2, x.unlay(1));
        due("11 unlay(1) again", FerriesLevel.STATE, x.unlay(1));
        due("11 person(1, 5)", 10, x.person(1, 5));
        due("11 unlay(3)", FerriesLevel.UNKNOWN, x.unlay(3));
        due("11 unlay(-1)", FerriesLevel.UNKNOWN, x.unlay(-1));
        due("11 unlay(2)", 1, x.unlay(2));
        due("11 weighs(2, 0)", 0, x.weighs(2, 0));
        x.lay(1, 2);
        x.lay(2, 1);
        x.leave();
        due("11 unlay(0): gone", FerriesLevel.STATE, x.unlay(0));
    }

    private static void weighs() {
        FerriesLevel x = Check.ferry("B32387P1013P2013P3013");
        due("12 weighs(0, 0) of nobody", 7, x.weighs(0, 0));
        due("12 weighs(1, 0) of nobody", 0, x.weighs(1, 0));
        x.lay(0, 0);
        x.lay(1, 0);
        x.lay(2, 2);
        x.gain(0, -3);
        x.gain(1, 1);
        x.gain(2, 3);
        due("12 weighs(0, 0)", 37, x.weighs(0, 0));
        due("12 weighs(0, 3)", 7 + 1 + 23, x.weighs(0, 3));
        due("12 weighs(0, 9)", 7 + 29, x.weighs(0, 9));
        due("12 weighs(2, 9)", 57, x.weighs(2, 9));
        due("12 weighs(1, 9)", 0, x.weighs(1, 9));
        due("12 weighs(3, 0)", FerriesLevel.UNKNOWN, x.weighs(3, 0));
        due("12 weighs(-1, 0)", FerriesLevel.UNKNOWN, x.weighs(-1, 0));
        due("12 weighs(3, 10)", FerriesLevel.UNKNOWN, x.weighs(3, 10));
        due("12 weighs(0, 10)", FerriesLevel.OUTSIDE, x.weighs(0, 10));
        due("12 weighs(0, -1)", FerriesLevel.OUTSIDE, x.weighs(0, -1));
        x.minutes(5);
        due("12 weighs(2, 1) whatever the crossing takes", 33, x.weighs(2, 1));
    }

    private static void offOfTwoEnds() {
        FerriesLevel x = Check.ferry("B22385P1013P2013P9913");
        due("13 off(0) of the list", 10010, x.off(0));
        x.lay(0, 0);
        x.lay(1, 1);
        due("13 off(0)", 10000 + 2 * 15 - 3 * 20, x.off(0));
        x.gain(0, 3);
        x.gain(1, -3);
        due("13 off(5)", 10000 + 2 * 30 - 3 * 5, x.off(5));
        due("13 off(9): 0 at least", 10000 + 2 * 42, x.off(9));
        x.lay(2, 1);
        due("13 off(0), less", 10000 + 30 - 357, x.off(0));
        due("13 off(10)", FerriesLevel.OUTSIDE, x.off(10));
        due("13 off(-1)", FerriesLevel.OUTSIDE, x.off(-1));
    }

    private static void offOfThreeEnds() {
        FerriesLevel x = Check.ferry("B33382P1013P2013P3013");
        due("13 off(0) of the list", 10002, x.off(0));
        x.lay(0, 0);
        x.lay(1, 1);
        x.lay(2, 2);
        due("13 off(0)", 10018, x.off(0));
        x.gain(2, -3);
        due("13 off(4)", 10008, x.off(4));
        due("13 off(9)", 10017, x.off(9));
        x.unlay(0);
        due("13 off(0) of two", 10028, x.off(0));
    }

    private static void leave() {
        FerriesLevel x = Check.ferry("B21380P3043P1093P2013");
        due("14 leave() of nobody", FerriesLevel.STATE, x.leave());
        x.lay(0, 0);
        due("14 leave() not level", FerriesLevel.STATE, x.leave());
        due("14 nothing changed", 0, x.person(0, 5));
        x.lay(1, 1);
        due("14 leave()", 13, x.leave());
        due("14 person(0, 5)", 20, x.person(0, 5));
        due("14 person(1, 5)", 20, x.person(1, 5));
        due("14 person(2, 5)", 10, x.person(2, 5));
        due("14 count(5)", 1, x.count(5));
        due("14 count(3)", 0, x.count(3));
        due("14 leave() of nobody behind it", FerriesLevel.STATE, x.leave());
        FerriesLevel y = Check.ferry("B31184P1053P1053");
        y.lay(0, 1);
        y.lay(1, 2);
        due("14 leave() with the list", FerriesLevel.STATE, y.leave());
        FerriesLevel z = Check.ferry("B31124P0463P1053P1053");
        z.lay(0, 0);
        z.lay(1, 1);
        z.lay(2, 2);
        due("14 three ends not level", FerriesLevel.STATE, z.leave());
        FerriesLevel w = Check.ferry("B31124P0663P1053P1053");
        w.lay(0, 0);
        w.lay(1, 1);
        w.lay(2, 2);
        due("14 three ends with the list", 16, w.leave());
    }

    private static void leaveBehindMinutes() {
        FerriesLevel x = Check.ferry("B21180P1013P0913");
        x.gain(1, 1);
        x.minutes(1);
        x.lay(0, 0);
        x.lay(1, 1);
        due("14 level only when it is there", FerriesLevel.STATE, x.leave());
        FerriesLevel y = Check.ferry("B21180P1013P1013");
        y.gain(0, -3);
        y.gain(1, -2);
        y.lay(0, 0);
        y.lay(1, 1);
        y.minutes(4);
        due("14 level only at leaving", FerriesLevel.STATE, y.leave());
        y.minutes(5);
        due("14 level, since both weigh 0 there", 2, y.leave());
    }

    private static void back() {
        FerriesLevel x = Check.ferry("B21180P1013P1013P2023P2023P3043");
        due("15 back() of none", FerriesLevel.STATE, x.back());
        x.lay(0, 0);
        x.lay(1, 1);
        x.leave();
        x.lay(2, 1);
        x.lay(3, 0);
        x.leave();
        x.lay(4, 0);
        due("15 back()", 1, x.back());
        due("15 who was laid since then is not", 10, x.person(4, 5));
        due("15 laid as they were", 1, x.person(2, 5));
        due("15 laid as they were", 0, x.person(3, 5));
        due("15 still gone", 20, x.person(0, 5));
        due("15 left(1, 0)", FerriesLevel.UNKNOWN, x.left(1, 0));
        due("15 count(6)", 2, x.count(6));
        due("15 best() of those that wait again", 4, x.best());
        due("15 back() again", 0, x.back());
        due("15 laid since then is not", 10, x.person(2, 5));
        due("15 laid as they were", 0, x.person(0, 5));
        due("15 count(3)", 2, x.count(3));
        due("15 back() of none again", FerriesLevel.STATE, x.back());
        due("15 leave() once more", 2, x.leave());
        due("15 count(3) behind it", 0, x.count(3));
    }

    private static void left() {
        FerriesLevel x = Check.ferry("B31180P1013P1013P1013P2013P1013P1013P2013P2013");
        due("16 left(0, 0) of none", FerriesLevel.UNKNOWN, x.left(0, 0));
        x.lay(0, 0);
        x.lay(1, 1);
        x.lay(2, 2);
        x.leave();
        x.lay(4, 1);
        x.lay(5, 1);
        x.lay(3, 0);
        x.lay(7, 2);
        x.leave();
        int[][] want = {{1, 2, 4}, {8, 48, 128}};
        for (int boat = 0; boat < 2; boat++) {
            for (int end = 0; end < 3; end++) {
                due("16 left(" + boat + ", " + end + ")", want[boat][end], x.left(boat, end));
            }
        }
        due("16 left(2, 0)", FerriesLevel.UNKNOWN, x.left(2, 0));
        due("16 left(-1, 0)", FerriesLevel.UNKNOWN, x.left(-1, 0));
        due("16 left(0, 3)", FerriesLevel.UNKNOWN, x.left(0, 3));
        due("16 left(0, -1)", FerriesLevel.UNKNOWN, x.left(0, -1));
        FerriesLevel y = Check.ferry("B21180P1013P1013");
        y.lay(0, 1);
        y.lay(1, 0);
        y.leave();
        due("16 left(0, 2) of two ends", FerriesLevel.UNKNOWN, y.left(0, 2));
        due("16 left(0, 1)", 1, y.left(0, 1));
    }

    /** Goods that weigh the LIST alone level the boat, so that one can leave by itself. */
    private static void eightBoats() {
        FerriesLevel x = Check.ferry("B21119" + "P0911".repeat(8));
        for (int p = 0; p < 8; p++) {
            x.lay(p, 1);
            due("14 leave() of boat " + p, 1, x.leave());
        }
        due("14 count(5)", 8, x.count(5));
        due("14 count(6)", 8, x.count(6));
        due("14 leave() behind eight: nobody is laid", FerriesLevel.STATE, x.leave());
        due("14 weighs(0, 0)", 9, x.weighs(0, 0));
        due("16 left(7, 1)", 128, x.left(7, 1));
        due("16 left(8, 1)", FerriesLevel.UNKNOWN, x.left(8, 1));
        due("28 fits()", 1, x.fits());
        for (int p = 7; p >= 0; p--) {
            due("15 back() of boat " + p, p, x.back());
            due("15 it is laid", 1, x.person(p, 5));
            due("15 count(3)", 1, x.count(3));
        }
    }
}
