/** Promises 1 to 5, "==== 1 THE TEXT": each sentence that names a bound, an empty or a full one. */
public final class TextEdgesTest {
    private static final int OUTSIDE = FerriesLevel.OUTSIDE;
    private static final int STATE = FerriesLevel.STATE;
    private static final int FULL = FerriesLevel.FULL;
    private static final int NONE = FerriesLevel.NONE;
    private static final String BOAT = "B21180";
    private static final String EIGHT = BOAT + "P1093".repeat(8);
    private static final Check CHECK = new Check();

    public static void main(String[] args) {
        atFirst();
        bytesOfAWrite();
        whichBytesOfANumber();
        mostBytes();
        nothingComes();
        wipes();
        figuresOfTheBoat();
        figuresOfAPerson();
        endOfAPerson();
        howManyPeople();
        firstFault();
        notAtItsEnd();
        ferryOfAFault();
        ferryAnew();
        lastCall();
        CHECK.end("TextEdgesTest");
    }

    private static void due(String call, long want, long got) {
        CHECK.due(call, want, got);
    }

    private static void atFirst() {
        CHECK.says("At first THE FERRY is B21180.");
        FerriesLevel told = Check.ferry("B21180");
        told.wipe();
        CHECK.same("a new object", Seen.of(told), Seen.of(new FerriesLevel()));
        CHECK.says("NONE is -9.");
        due("NONE", -9, NONE);
        due("bestMakes() of a new object", -9, new FerriesLevel().bestMakes());
        CHECK.says("A boat of two ENDS, nobody.");
        due("boat(0) of a new object", 2, new FerriesLevel().boat(0));
        due("count(1) of a new object", 0, new FerriesLevel().count(1));
        due("count(0) of a new object", 0, new FerriesLevel().count(0));
        CHECK.says("FAULT; NONE.");
        due("fault() of a new object", 0, new FerriesLevel().fault());
        due("fault() of B21180", -9, Check.told("B21180").fault());
        due("write(1, B) of a new object", 1, new FerriesLevel().write(1, 'B'));
    }

    private static void bytesOfAWrite() {
        CHECK.says("n bytes (1 to 8) of v");
        for (int n = 1; n <= 8; n++) {
            FerriesLevel x = new FerriesLevel();
            due("write(" + n + ", 0)", n, x.write(n, 0));
            due("count(0) behind it", n, x.count(0));
        }
        CHECK.says("come behind THE TEXT: how long it is. OUTSIDE");
        for (int n : new int[] {0, 9, -1, -8, 16, 257, Integer.MIN_VALUE, Integer.MIN_VALUE + 8, Integer.MAX_VALUE}) {
            FerriesLevel x = new FerriesLevel();
            due("write(" + n + ", 0)", OUTSIDE, x.write(n, 0));
            due("count(0) behind it", 0, x.count(0));
        }
    }

    /** What stands above the lowest n bytes is another thing each time, and must not count. */
    private static void whichBytesOfANumber() {
        CHECK.says("the lowest n, the highest of these first, come behind THE TEXT");
        String text = "B32359P1271P3042P9003";
        for (int n = 1; n <= 8; n++) {
            for (long above : new long[] {0, -1, 0x4242424242424242L, Long.MIN_VALUE}) {
                FerriesLevel x = new FerriesLevel();
                for (int i = 0; i < text.length(); i += n) {
                    String piece = text.substring(i, Math.min(text.length(), i + n));
                    int m = piece.length();
                    long v = Check.bytes(piece) | (m == 8 ? 0 : above << 8 * m);
                    due("write(" + m + ", " + v + ")", i + m, x.write(m, v));
                }
                due("ferry() of pieces of " + n, 3, x.ferry());
                due("boat(4)", 9, x.boat(4));
                due("person(0, 0)", 12, x.person(0, 0));
                due("person(1, 1)", 4, x.person(1, 1));
                due("person(2, 0)", 90, x.person(2, 0));
            }
        }
        FerriesLevel high = new FerriesLevel();
        high.write(8, -1L);
        due("fault() of eight bytes 255", 0, high.fault());
        due("fault() of the byte 66 + 128", 0, Check.told(String.valueOf((char) 194)).fault());
        FerriesLevel sign = Check.told("B2");
        sign.write(1, '1' + 128);
        due("fault() of the byte 49 + 128", 2, sign.fault());
    }

    private static FerriesLevel filled(int length) {
        FerriesLevel x = new FerriesLevel();
        for (int i = 0; i < length; i++) {
            x.write(1, 'X');
        }
        return x;
    }

    private static void mostBytes() {
        CHECK.says("THE TEXT is bytes (48 at most).");
        for (int length = 0; length <= 48; length++) {
            for (int n = 1; n <= 8; n++) {
                FerriesLevel x = filled(length);
                int behind = length + n <= 48 ? length + n : length;
                due("write(" + n + ", 0) at " + length, behind == length ? FULL : behind, x.write(n, 0));
                due("count(0) behind it", behind, x.count(0));
            }
        }
    }

    private static void nothingComes() {
        CHECK.says("FULL: it would be longer than 48 (nothing comes)");
        FerriesLevel x = Check.told(EIGHT.substring(0, 45));
        due("write(4, 3333) at 45", FULL, x.write(4, 0x33333333L));
        due("fault() behind it", 45, x.fault());
        due("write(1, 3) at 45", 46, x.write(1, '3'));
        due("ferry()", 8, x.ferry());
        due("write(3, 0) at 46", FULL, x.write(3, 0));
        due("ferry() behind it", 8, x.ferry());
        due("write(2, 0) at 46", 48, x.write(2, 0));
        due("write(1, 0) at 48", FULL, x.write(1, 0));
    }

    private static void wipes() {
        CHECK.says("THE TEXT is empty: how long it was.");
        for (int length = 0; length <= 48; length++) {
            FerriesLevel x = filled(length);
            due("wipe() of " + length, length, x.wipe());
            due("wipe() of nothing", 0, x.wipe());
        }
        FerriesLevel x = filled(48);
        x.wipe();
        due("fault() behind wipe()", 0, x.fault());
        for (int i = 1; i <= 6; i++) {
            due("write(8, 0) behind wipe()", 8 * i, x.write(8, 0));
        }
        due("write(1, 0) at 48", FULL, x.write(1, 0));
        FerriesLevel ferry = Check.leave(Check.ferry("B21180P1013P1013"), "01");
        ferry.keep(1);
        ferry.wipe();
        due("THE FERRY stays", 2, ferry.count(1));
        due("BOATS that left stay", 1, ferry.count(5));
        due("what was kept stays", 1, ferry.again(1));
    }

    private static void fault(String text, int want) {
        due("fault() of " + text, want, Check.told(text).fault());
    }

    private static boolean whole(int length) {
        return length >= 6 && length % 5 == 1;
    }

    /** The last sign inside on each side, and the first outside; another byte behind it changes nothing. */
    private static void between(String ahead, char least, char most) {
        int at = ahead.length();
        int inside = whole(at + 1) ? NONE : at + 1;
        for (String behind : new String[] {"", "X"}) {
            fault(ahead + (char) (least - 1) + behind, at);
            fault(ahead + least + behind, behind.isEmpty() ? inside : at + 1);
            fault(ahead + most + behind, behind.isEmpty() ? inside : at + 1);
            fault(ahead + (char) (most + 1) + behind, at);
        }
    }

    private static void figuresOfTheBoat() {
        CHECK.says("A FERRY is a TEXT: B, then five figures");
        between("", 'B', 'B');
        fault("b21180", 0);
        CHECK.says("ENDS (2 or 3)");
        between("B", '2', '3');
        for (char ends = '2'; ends <= '3'; ends++) {
            CHECK.says("arms a and b (1 to 3 each)");
            between("B" + ends, '1', '3');
            between("B" + ends + "1", '1', '3');
            between("B" + ends + "3", '1', '3');
            CHECK.says("how many PEOPLE an END takes (1 to 8)");
            between("B" + ends + "13", '1', '8');
            CHECK.says("the LIST (0 to 9)");
            between("B" + ends + "311", '0', '9');
            between("B" + ends + "118", '0', '9');
        }
    }

    private static void figuresOfAPerson() {
        for (int p = 0; p < 8; p++) {
            String ahead = BOAT + "P1093".repeat(p);
            CHECK.says("P and four figures each");
            between(ahead, 'P', 'P');
            fault(ahead + "p", ahead.length());
            fault(ahead + "B", ahead.length());
            CHECK.says("the weight (two figures, 01 to 99)");
            between(ahead + "P", '0', '9');
            between(ahead + "P0", '1', '9');
            between(ahead + "P1", '0', '9');
            between(ahead + "P9", '0', '9');
            CHECK.says("the fare (0 to 9)");
            between(ahead + "P01", '0', '9');
            between(ahead + "P99", '0', '9');
        }
    }

    private static void endOfAPerson() {
        CHECK.says("the END at which they will sit alone (0, 1, or with three ENDS 2; 3: at any)");
        for (int p = 0; p < 8; p++) {
            String two = "B21180" + "P1093".repeat(p) + "P010";
            between(two, '0', '1');
            between(two, '3', '3');
            between("B31180" + "P1092".repeat(p) + "P990", '0', '3');
        }
    }

    private static void howManyPeople() {
        CHECK.says("PEOPLE, none or more (8 at most, numbered as they are told)");
        for (int n = 0; n <= 8; n++) {
            FerriesLevel x = Check.told(BOAT + "P1093".repeat(n));
            due("fault() of " + n, NONE, x.fault());
            due("ferry() of " + n, n, x.ferry());
            due("count(1)", n, x.count(1));
        }
        CHECK.says("whatever came behind it (its length set aside)");
        for (String more : new String[] {"P", "P1", "PP", "0", "X", "\u0000", "\u00ff\u00ff"}) {
            fault(EIGHT + more, 46);
        }
        CHECK.says("numbered as they are told");
        FerriesLevel order = Check.ferry("B21180P1093P2083P3073P4063P5053P6043P7033P8023");
        for (int p = 0; p < 8; p++) {
            due("person(" + p + ", 0)", 10 * (p + 1), order.person(p, 0));
            due("person(" + p + ", 1)", 9 - p, order.person(p, 1));
        }
    }

    private static void firstFault() {
        CHECK.says("the place of the first byte by which THE TEXT can be no FERRY, whatever came behind it");
        for (int at = 0; at < 46; at++) {
            String broken = EIGHT.substring(0, at) + 'X';
            fault(broken, at);
            fault(broken + EIGHT.substring(at + 1), at);
            fault(broken + "X", at);
            fault(broken + EIGHT.substring(at + 1, Math.max(at + 1, 45)), at);
        }
        // a weight of 0 may still become one of 1 to 9: only its second figure is the fault
        fault("B21180P0", 8);
        fault("B21180P00", 8);
        fault("B21180P0003", 8);
        // with two ENDS an END of 2 is the fault, and not the figure that told two
        fault("B21180P1092P10", 10);
        fault("B31180P1092P10", 14);
    }

    private static void notAtItsEnd() {
        CHECK.says("its length, if it is only not at its end; NONE: none");
        for (int length = 0; length <= 46; length++) {
            fault(EIGHT.substring(0, length), whole(length) ? NONE : length);
        }
    }

    private static void ferryOfAFault() {
        CHECK.says("STATE: a FAULT.");
        for (int length = 0; length <= 46; length++) {
            int people = (length - 6) / 5;
            due("ferry() of " + length + " bytes", whole(length) ? people : STATE,
                    Check.told(EIGHT.substring(0, length)).ferry());
        }
        due("ferry() of 47 bytes", STATE, Check.told(EIGHT + "P").ferry());
        due("ferry() of 48 bytes", STATE, Check.told(EIGHT + "P1").ferry());
        due("ferry() with a fault at 0", STATE, Check.told("C21180").ferry());
        due("ferry() with a fault at its last byte", STATE, Check.told("B21180P1092").ferry());
    }

    /** All that a ferry can have about it. */
    private static FerriesLevel used() {
        FerriesLevel x = Check.ferry("B31180" + "P1023".repeat(8));
        x.gain(0, 3);
        x.gain(1, 3);
        x.gain(2, 3);
        x.gain(7, -3);
        x.minutes(9);
        Check.leave(x, "012");
        x.claim(0, 99);
        x.claim(7, 1);
        x.lay(7, 2);
        x.keep(0);
        x.keep(1);
        x.best();
        x.makes(1);
        x.all();
        return x;
    }

    private static void ferryAnew() {
        for (String text : new String[] {"B31180" + "P1023".repeat(8), "B21180", "B22339P0971P1303P9990"}) {
            FerriesLevel x = used();
            x.wipe();
            Check.append(x, text);
            CHECK.says("THE TEXT is THE FERRY (nobody is laid or gone, no BOAT left, what was kept is gone): how many PEOPLE.");
            due("ferry()", (text.length() - 6) / 5, x.ferry());
            CHECK.same("what is made anew", Seen.of(Check.ferry(text)), Seen.of(x));
            due("again(0) behind ferry()", STATE, x.again(0));
            due("again(1) behind ferry()", STATE, x.again(1));
            due("count(0): THE TEXT stays", text.length(), x.count(0));
        }
        CHECK.says("0 at first, and when THE FERRY is made anew");
        FerriesLevel same = used();
        due("ferry() of the text that stands", 8, same.ferry());
        due("person(7, 3)", 10, same.person(7, 3));
        due("boat(5)", 0, same.boat(5));
        CHECK.says("its weight at first, and when THE FERRY is made anew");
        due("person(0, 4)", 10, same.person(0, 4));
        due("person(7, 4)", 10, same.person(7, 4));
    }

    private static void lastCall() {
        CHECK.says("An object is used for at most 512 calls after it has been made");
        FerriesLevel x = Check.ferry("B21180P1023P1033");
        // three calls told it, and each round makes two
        for (int call = 5; call <= 509; call += 2) {
            due("lay(0, 0) as call " + (call - 1), 1, x.lay(0, 0));
            due("unlay(0) as call " + call, 0, x.unlay(0));
        }
        due("best() as call 510", 5, x.best());
        due("lay(1, 1) as call 511", 1, x.lay(1, 1));
        due("weighs(1, 0) as call 512", 10, x.weighs(1, 0));
    }
}
