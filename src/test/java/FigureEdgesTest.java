/** Promises 6 to 9, GAIN and MINUTES: each sentence that names a bound. */
public final class FigureEdgesTest {
    private static final int UNKNOWN = FerriesLevel.UNKNOWN;
    private static final int OUTSIDE = FerriesLevel.OUTSIDE;
    private static final int[] FAR = {Integer.MIN_VALUE, -100, 100, 256, Integer.MAX_VALUE};
    private static final Check CHECK = new Check();

    public static void main(String[] args) {
        figuresOfTheBoat();
        whatOfTheBoat();
        figuresOfAPerson();
        whoIsAPerson();
        whatOfAPerson();
        whereItIs();
        gainBounds();
        gainsApart();
        minutesBounds();
        eachMinute();
        zeroAtLeast();
        CHECK.end("FigureEdgesTest");
    }

    private static void due(String call, long want, long got) {
        CHECK.due(call, want, got);
    }

    private static void boats(String text, int... want) {
        FerriesLevel x = Check.ferry(text);
        for (int what = 0; what < want.length; what++) {
            due(text + ": boat(" + what + ")", want[what], x.boat(what));
        }
    }

    private static void figuresOfTheBoat() {
        CHECK.says("ENDS (what = 0), a (1), b (2), how many an END takes (3), the LIST (4), MINUTES (5).");
        boats("B21110", 2, 1, 1, 1, 0, 0);
        boats("B33389", 3, 3, 3, 8, 9, 0);
        boats("B21345", 2, 1, 3, 4, 5, 0);
        boats("B33176", 3, 3, 1, 7, 6, 0);
    }

    private static void whatOfTheBoat() {
        CHECK.says("MINUTES (5). OUTSIDE.");
        FerriesLevel x = Check.ferry("B33389");
        x.minutes(9);
        due("boat(5)", 9, x.boat(5));
        due("boat(6)", OUTSIDE, x.boat(6));
        due("boat(0)", 3, x.boat(0));
        due("boat(-1)", OUTSIDE, x.boat(-1));
        for (int far : FAR) {
            due("boat(" + far + ")", OUTSIDE, x.boat(far));
        }
    }

    private static void figuresOfAPerson() {
        CHECK.says("Of a PERSON its weight (what = 0), fare (1), the END it will sit at (2)");
        FerriesLevel x = Check.ferry("B31180P0100P9993P1012P0991");
        int[][] told = {{1, 0, 0}, {99, 9, 3}, {10, 1, 2}, {9, 9, 1}};
        for (int p = 0; p < told.length; p++) {
            for (int what = 0; what < 3; what++) {
                due("person(" + p + ", " + what + ")", told[p][what], x.person(p, what));
            }
        }
        CHECK.says("GAIN, and 10 (3)");
        for (int g = -3; g <= 3; g++) {
            x.gain(1, g);
            due("person(1, 3) of " + g, g + 10, x.person(1, 3));
        }
        CHECK.says("CLAIM (4)");
        due("person(0, 4) at first", 1, x.person(0, 4));
        due("person(1, 4) at first", 99, x.person(1, 4));
        x.claim(0, 99);
        x.claim(1, 1);
        due("person(0, 4)", 99, x.person(0, 4));
        due("person(1, 4)", 1, x.person(1, 4));
    }

    private static void whoIsAPerson() {
        CHECK.says("UNKNOWN (there is no such PERSON, END, BOAT that left, SLOT)");
        for (int n = 0; n <= 8; n++) {
            FerriesLevel x = Check.ferry("B21180" + "P1093".repeat(n));
            due("person(-1, 0) of " + n, UNKNOWN, x.person(-1, 0));
            for (int p = 0; p <= 9; p++) {
                due("person(" + p + ", 1) of " + n, p < n ? 9 : UNKNOWN, x.person(p, 1));
            }
            for (int far : FAR) {
                due("person(" + far + ", 0) of " + n, UNKNOWN, x.person(far, 0));
            }
        }
        FerriesLevel fewer = Check.ferry("B21180" + "P1093".repeat(8));
        fewer.wipe();
        Check.append(fewer, "B21180P2083");
        fewer.ferry();
        due("person(0, 0) of the new one", 20, fewer.person(0, 0));
        due("person(1, 0) of the old one", UNKNOWN, fewer.person(1, 0));
    }

    private static void whatOfAPerson() {
        CHECK.says("OUTSIDE (another number is not as told)");
        FerriesLevel x = Check.ferry("B21180P1093");
        due("person(0, 5)", 10, x.person(0, 5));
        due("person(0, 6)", OUTSIDE, x.person(0, 6));
        due("person(0, 0)", 10, x.person(0, 0));
        due("person(0, -1)", OUTSIDE, x.person(0, -1));
        CHECK.says("20 it is gone. UNKNOWN; OUTSIDE.");
        due("person(1, 6)", UNKNOWN, x.person(1, 6));
        for (int far : FAR) {
            due("person(0, " + far + ")", OUTSIDE, x.person(0, far));
        }
    }

    private static void whereItIs() {
        CHECK.says("an END at which it is laid, 10 it waits, 20 it is gone");
        FerriesLevel x = Check.ferry("B31180P1013P1013P1013P1013");
        due("person(0, 5)", 10, x.person(0, 5));
        Check.lay(x, "012");
        for (int p = 0; p < 4; p++) {
            due("person(" + p + ", 5)", p < 3 ? p : 10, x.person(p, 5));
        }
        x.leave();
        for (int p = 0; p < 4; p++) {
            due("person(" + p + ", 5) behind leave()", p < 3 ? 20 : 10, x.person(p, 5));
        }
        x.back();
        x.unlay(1);
        due("person(1, 5) behind unlay()", 10, x.person(1, 5));
        due("person(2, 5) behind back()", 2, x.person(2, 5));
    }

    private static void gainBounds() {
        CHECK.says("A GAIN of a PERSON (-3 to 3; 0 at first");
        FerriesLevel x = Check.ferry("B21180P5013P5013");
        int was = 0;
        for (int g : new int[] {3, -3, 2, -2, 1, -1, 0}) {
            due("gain(0, " + g + ")", was + 10, x.gain(0, g));
            was = g;
        }
        due("gain(0, -3)", 10, x.gain(0, -3));
        due("gain(0, -4)", OUTSIDE, x.gain(0, -4));
        due("person(0, 3) behind it", 7, x.person(0, 3));
        due("gain(0, 3)", 7, x.gain(0, 3));
        due("gain(0, 4)", OUTSIDE, x.gain(0, 4));
        due("person(0, 3) behind it", 13, x.person(0, 3));
        for (int far : FAR) {
            due("gain(0, " + far + ")", OUTSIDE, x.gain(0, far));
        }
        CHECK.says("UNKNOWN; OUTSIDE: g (-3 to 3).");
        due("gain(2, 0)", UNKNOWN, x.gain(2, 0));
        due("gain(-1, 0)", UNKNOWN, x.gain(-1, 0));
        due("gain(0, 0) of nobody", UNKNOWN, new FerriesLevel().gain(0, 0));
    }

    private static void gainsApart() {
        CHECK.says("GAIN: what it was, and 10.");
        FerriesLevel x = Check.ferry("B21180" + "P5013".repeat(8));
        for (int p = 0; p < 8; p++) {
            due("gain(" + p + ", ..)", 10, x.gain(p, p % 7 - 3));
        }
        for (int p = 0; p < 8; p++) {
            due("gain(" + p + ", 0)", p % 7 - 3 + 10, x.gain(p, 0));
        }
        // no STATE is named: one that is laid or gone has a GAIN, too
        FerriesLevel gone = Check.lay(Check.leave(Check.ferry("B21180P1013P1013P1013"), "01"), "--0");
        due("gain(0, 3) of one that is gone", 10, gone.gain(0, 3));
        due("gain(2, -3) of one that is laid", 10, gone.gain(2, -3));
        due("person(0, 3)", 13, gone.person(0, 3));
    }

    private static void minutesBounds() {
        CHECK.says("A crossing takes so many MINUTES (0 to 9; 0 at first; likewise).");
        FerriesLevel x = new FerriesLevel();
        for (int m = 0; m <= 9; m++) {
            due("minutes(" + m + ")", Math.max(0, m - 1), x.minutes(m));
            due("boat(5)", m, x.boat(5));
        }
        CHECK.says("MINUTES: what they were. OUTSIDE.");
        due("minutes(10)", OUTSIDE, x.minutes(10));
        due("boat(5) behind it", 9, x.boat(5));
        due("minutes(0)", 9, x.minutes(0));
        due("minutes(-1)", OUTSIDE, x.minutes(-1));
        due("boat(5) behind it", 0, x.boat(5));
        for (int far : FAR) {
            due("minutes(" + far + ")", OUTSIDE, x.minutes(far));
        }
    }

    private static void eachMinute() {
        CHECK.says("is added to its weight each minute of a crossing");
        for (int g = -3; g <= 3; g++) {
            FerriesLevel x = Check.lay(Check.ferry("B21180P5013P9913P0113"), "01-");
            x.gain(0, g);
            x.gain(1, g);
            x.gain(2, 3);
            for (int m = 0; m <= 9; m++) {
                due("weighs(0, " + m + ") of 50 and " + g, 50 + g * m, x.weighs(0, m));
                due("weighs(1, " + m + ") of 99 and " + g, 99 + g * m, x.weighs(1, m));
            }
            due("person(0, 0): its weight is as told", 50, x.person(0, 0));
        }
    }

    private static void zeroAtLeast() {
        CHECK.says("it weighs 0 at least");
        int[][] cases = {{1, -1, 1, 0}, {1, -1, 2, 0}, {2, -1, 1, 1}, {1, -3, 1, 0}, {4, -3, 1, 1}, {3, -3, 1, 0},
            {27, -3, 9, 0}, {28, -3, 9, 1}, {26, -3, 9, 0}, {18, -2, 9, 0}, {19, -2, 9, 1}, {17, -2, 9, 0},
            {9, -1, 9, 0}, {10, -1, 9, 1}, {8, -1, 9, 0}, {1, -3, 9, 0}, {1, -3, 0, 1}};
        for (int[] c : cases) {
            String weight = "" + c[0] / 10 + c[0] % 10;
            FerriesLevel x = Check.lay(Check.ferry("B21185P" + weight + "13P5013"), "11");
            x.gain(0, c[1]);
            due(c[0] + " pounds, " + c[1] + " for " + c[2] + " minutes", 50 + c[3], x.weighs(1, c[2]));
            due("the LIST loses nothing", 5, x.weighs(0, c[2]));
        }
    }
}
