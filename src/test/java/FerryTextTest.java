/** Promises 1 to 9: a new object, write, wipe, fault, ferry, boat, person, gain, minutes. */
public final class FerryTextTest {
    private static final Check CHECK = new Check();

    private static void due(String call, long want, long got) {
        CHECK.due(call, want, got);
    }

    public static void main(String[] args) {
        newObject();
        write();
        wipe();
        faultsOfTheBoat();
        faultsOfPeople();
        faultsAtTheEnd();
        ferry();
        ferryMakesAllAnew();
        boat();
        person();
        gain();
        minutes();
        CHECK.end("FerryTextTest");
    }

    private static void newObject() {
        FerriesLevel x = new FerriesLevel();
        int[] boat = {2, 1, 1, 8, 0, 0};
        for (int what = 0; what < 6; what++) {
            due("1 new: boat(" + what + ")", boat[what], x.boat(what));
        }
        for (int what = 0; what < 7; what++) {
            due("1 new: count(" + what + ")", 0, x.count(what));
        }
        due("1 new: person(0, 0)", FerriesLevel.UNKNOWN, x.person(0, 0));
        due("1 new: fault()", 0, x.fault());
        due("1 new: ferry()", FerriesLevel.STATE, x.ferry());
        due("1 new: again(0)", FerriesLevel.STATE, x.again(0));
        due("1 UNKNOWN", -1, FerriesLevel.UNKNOWN);
        due("1 OUTSIDE", -2, FerriesLevel.OUTSIDE);
        due("1 STATE", -3, FerriesLevel.STATE);
        due("1 FULL", -4, FerriesLevel.FULL);
        due("1 NONE", -9, FerriesLevel.NONE);
    }

    private static void write() {
        FerriesLevel x = new FerriesLevel();
        due("2 write(0, 66)", FerriesLevel.OUTSIDE, x.write(0, 66));
        due("2 write(9, 66)", FerriesLevel.OUTSIDE, x.write(9, 66));
        due("2 write(-1, 66)", FerriesLevel.OUTSIDE, x.write(-1, 66));
        due("2 write(MIN, 66)", FerriesLevel.OUTSIDE, x.write(Integer.MIN_VALUE, 66));
        due("2 write(MAX, 66)", FerriesLevel.OUTSIDE, x.write(Integer.MAX_VALUE, 66));
        due("2 count(0) behind refusals", 0, x.count(0));
        // bytes above the lowest n do not count: 'X' stands above "B3"
        due("2 write(2, XB3)", 2, x.write(2, 0x584233L));
        due("2 write(4, 2351)", 6, x.write(4, 0x32333531L));
        due("2 ferry()", 0, x.ferry());
        int[] boat = {3, 2, 3, 5, 1};
        for (int what = 0; what < 5; what++) {
            due("2 boat(" + what + ")", boat[what], x.boat(what));
        }
        x.wipe();
        for (int i = 1; i <= 5; i++) {
            due("2 write(8, -1)", 8 * i, x.write(8, -1L));
        }
        due("2 write(7, -1)", 47, x.write(7, -1L));
        due("2 write(2, 0) at 47", FerriesLevel.FULL, x.write(2, 0));
        due("2 write(9, 0) at 47", FerriesLevel.OUTSIDE, x.write(9, 0));
        due("2 count(0) at 47", 47, x.count(0));
        due("2 write(1, 0) at 47", 48, x.write(1, 0));
        due("2 write(1, 0) at 48", FerriesLevel.FULL, x.write(1, 0));
        due("2 count(0) at 48", 48, x.count(0));
        FerriesLevel y = new FerriesLevel();
        due("2 write(8, B21180P1)", 8, y.write(8, 0x4232313138305031L));
        due("2 write(3, 093)", 11, y.write(3, 0x303933L));
        due("2 ferry() of eight and three", 1, y.ferry());
        due("2 person(0, 0)", 10, y.person(0, 0));
    }

    private static void wipe() {
        FerriesLevel x = new FerriesLevel();
        due("3 wipe() of nothing", 0, x.wipe());
        Check.append(x, "B21180P1093");
        x.ferry();
        due("3 wipe()", 11, x.wipe());
        due("3 wipe() again", 0, x.wipe());
        due("3 fault() of nothing", 0, x.fault());
        due("3 the ferry stays", 1, x.count(1));
        Check.append(x, "B3");
        due("3 fault() of B3", 2, x.fault());
    }

    private static void fault(String text, int want) {
        due("4 fault() of " + text, want, Check.told(text).fault());
    }

    private static void faultsOfTheBoat() {
        fault("", 0);
        fault("B", 1);
        fault("b", 0);
        fault("P", 0);
        fault("\u0000", 0);
        fault("\u00ff", 0);
        String fits = "B21180";
        String[] allowed = {"B", "23", "123", "123", "12345678", "0123456789"};
        for (int at = 0; at < 6; at++) {
            for (char sign = 0; sign < 256; sign++) {
                String text = fits.substring(0, at) + sign;
                boolean ok = allowed[at].indexOf(sign) >= 0;
                int end = at == 5 ? FerriesLevel.NONE : at + 1;
                due("4 fault() of sign " + (int) sign + " at " + at, ok ? end : at, Check.told(text).fault());
                due("4 fault() of sign " + (int) sign + " at " + at + " and more", ok ? at + 1 : at,
                        Check.told(text + "XP").fault());
            }
        }
    }

    private static void faultsOfPeople() {
        for (int ends = 2; ends <= 3; ends++) {
            String fits = "B" + ends + "1180P1093P0103";
            String[] allowed = {"P", "0123456789", "123456789", "0123456789", ends == 2 ? "013" : "0123"};
            for (int at = 0; at < 5; at++) {
                for (char sign = 0; sign < 256; sign++) {
                    String text = fits.substring(0, 11 + at) + sign;
                    boolean ok = allowed[at].indexOf(sign) >= 0;
                    int end = at == 4 ? FerriesLevel.NONE : 12 + at;
                    due("4 fault() of sign " + (int) sign + " at " + (11 + at) + " of " + ends + " ends",
                            ok ? end : 11 + at, Check.told(text).fault());
                }
            }
        }
        fault("B21180P00", 8);
        fault("B21180P01", 9);
        fault("B21180P10", 9);
        fault("B21180P90", 9);
        fault("B21180P0003", 8);
        fault("B31180P1092P1094", 15);
        fault("B21180P1092", 10);
    }

    private static void faultsAtTheEnd() {
        String eight = "B21180" + "P1093".repeat(8);
        fault(eight, FerriesLevel.NONE);
        fault(eight.substring(0, 45), 45);
        fault(eight + "P", 46);
        fault(eight + "P1", 46);
        fault(eight + "XY", 46);
        fault("B21180" + "P1093".repeat(7) + "P109", 45);
        fault("B21180 ", 6);
        fault("B21180\n", 6);
    }

    private static void ferry() {
        due("5 ferry() of nobody", 0, Check.told("B31111").ferry());
        due("5 ferry() of eight", 8, Check.told("B31111" + "P1093".repeat(8)).ferry());
        FerriesLevel x = Check.ferry("B32359P1271P3042");
        x.write(1, 'X');
        due("5 ferry() with a fault", FerriesLevel.STATE, x.ferry());
        due("5 the ferry is as it was", 2, x.count(1));
        due("5 boat(0) is as it was", 3, x.boat(0));
        due("5 the text is as it was", 17, x.count(0));
        FerriesLevel y = Check.told("B2118");
        due("5 ferry() that is not at its end", FerriesLevel.STATE, y.ferry());
    }

    private static void ferryMakesAllAnew() {
        FerriesLevel x = Check.ferry("B21180P1053P1053P2071");
        x.gain(0, 2);
        x.gain(1, 2);
        x.minutes(7);
        x.claim(2, 44);
        x.lay(0, 0);
        x.lay(1, 1);
        due("5 leave()", 10, x.leave());
        x.lay(2, 1);
        x.keep(0);
        x.keep(1);
        due("5 ferry() of the same text", 3, x.ferry());
        due("5 gain anew", 10, x.person(0, 3));
        due("5 minutes anew", 0, x.boat(5));
        due("5 claim anew", 20, x.person(2, 4));
        due("5 nobody is laid", 0, x.count(3));
        due("5 nobody is gone", 0, x.count(4));
        due("5 no boat left", 0, x.count(5));
        due("5 nothing was kept in 0", FerriesLevel.STATE, x.again(0));
        due("5 nothing was kept in 1", FerriesLevel.STATE, x.again(1));
        due("5 best() anew", 17, x.best());
        x.wipe();
        Check.append(x, "B21180P3093P3093P2071");
        due("5 ferry() of another text", 3, x.ferry());
        due("5 best() of another", 18, x.best());
        due("5 claim of another", 30, x.person(0, 4));
    }

    private static void boat() {
        FerriesLevel x = Check.ferry("B32359");
        int[] boat = {3, 2, 3, 5, 9, 0};
        for (int what = 0; what < 6; what++) {
            due("6 boat(" + what + ")", boat[what], x.boat(what));
        }
        x.minutes(9);
        due("6 boat(5)", 9, x.boat(5));
        due("6 boat(6)", FerriesLevel.OUTSIDE, x.boat(6));
        due("6 boat(-1)", FerriesLevel.OUTSIDE, x.boat(-1));
        due("6 boat(MAX)", FerriesLevel.OUTSIDE, x.boat(Integer.MAX_VALUE));
        due("6 boat(MIN)", FerriesLevel.OUTSIDE, x.boat(Integer.MIN_VALUE));
    }

    private static void person() {
        FerriesLevel x = Check.ferry("B31180P0790P9902P3461P3453P0693");
        int[][] told = {{7, 9, 0}, {99, 0, 2}, {34, 6, 1}, {34, 5, 3}, {6, 9, 3}};
        for (int p = 0; p < told.length; p++) {
            for (int what = 0; what < 3; what++) {
                due("7 person(" + p + ", " + what + ")", told[p][what], x.person(p, what));
            }
            due("7 person(" + p + ", 3)", 10, x.person(p, 3));
            due("7 person(" + p + ", 4)", told[p][0], x.person(p, 4));
            due("7 person(" + p + ", 5)", 10, x.person(p, 5));
        }
        x.gain(4, -3);
        x.claim(4, 77);
        x.lay(1, 2);
        x.lay(2, 1);
        x.lay(0, 0);
        due("7 gain and 10", 7, x.person(4, 3));
        due("7 claim", 77, x.person(4, 4));
        due("7 weight is no claim", 6, x.person(4, 0));
        due("7 laid at 2", 2, x.person(1, 5));
        due("7 laid at 1", 1, x.person(2, 5));
        due("7 laid at 0", 0, x.person(0, 5));
        due("7 person(5, 0)", FerriesLevel.UNKNOWN, x.person(5, 0));
        due("7 person(-1, 0)", FerriesLevel.UNKNOWN, x.person(-1, 0));
        due("7 person(5, 6)", FerriesLevel.UNKNOWN, x.person(5, 6));
        due("7 person(MAX, 0)", FerriesLevel.UNKNOWN, x.person(Integer.MAX_VALUE, 0));
        due("7 person(4, 6)", FerriesLevel.OUTSIDE, x.person(4, 6));
        due("7 person(4, -1)", FerriesLevel.OUTSIDE, x.person(4, -1));
        FerriesLevel y = Check.ferry("B21180P1013P1013");
        y.lay(0, 0);
        y.lay(1, 1);
        y.leave();
        due("7 gone", 20, y.person(0, 5));
    }

    private static void gain() {
        FerriesLevel x = Check.ferry("B21180P1013P1013");
        due("8 gain(0, 3)", 10, x.gain(0, 3));
        due("8 gain(0, -3)", 13, x.gain(0, -3));
        due("8 gain(0, 4)", FerriesLevel.OUTSIDE, x.gain(0, 4));
        due("8 gain(0, -4)", FerriesLevel.OUTSIDE, x.gain(0, -4));
        due("8 gain(2, 4)", FerriesLevel.UNKNOWN, x.gain(2, 4));
        due("8 gain(-1, 0)", FerriesLevel.UNKNOWN, x.gain(-1, 0));
        due("8 gain(0, 0)", 7, x.gain(0, 0));
        due("8 gain(1, 0)", 10, x.gain(1, 0));
        x.lay(0, 0);
        x.lay(1, 1);
        x.gain(0, -3);
        due("8 weighs(0, 3)", 1, x.weighs(0, 3));
        due("8 weighs(0, 4): 0 at least", 0, x.weighs(0, 4));
        x.gain(1, 2);
        due("8 weighs(1, 9)", 28, x.weighs(1, 9));
    }

    private static void minutes() {
        FerriesLevel x = Check.ferry("B21180P1013P1013");
        due("9 minutes(9)", 0, x.minutes(9));
        due("9 minutes(10)", FerriesLevel.OUTSIDE, x.minutes(10));
        due("9 minutes(-1)", FerriesLevel.OUTSIDE, x.minutes(-1));
        due("9 minutes(4)", 9, x.minutes(4));
        due("9 boat(5)", 4, x.boat(5));
        due("9 minutes(0)", 4, x.minutes(0));
        x.gain(0, 1);
        x.lay(0, 0);
        x.lay(1, 1);
        x.minutes(1);
        due("9 leave() not level when it is there", FerriesLevel.STATE, x.leave());
        x.minutes(0);
        due("9 leave() of no minutes", 2, x.leave());
    }
}
