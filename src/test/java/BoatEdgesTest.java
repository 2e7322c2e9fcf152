/** Promises 10 to 16, what an END takes and BOATS that left: each sentence that names a boundary case. */
public final class BoatEdgesTest {
    private static final int UNKNOWN = FerriesLevel.UNKNOWN;
    private static final int OUTSIDE = FerriesLevel.OUTSIDE;
    private static final int STATE = FerriesLevel.STATE;
    private static final int FULL = FerriesLevel.FULL;
    private static final int[] FAR = {Integer.MIN_VALUE, -100, 100, 256, Integer.MAX_VALUE};
    private static final Check CHECK = new Check();

    public static void main(String[] args) {
        whatAnEndTakes();
        oneMoreBehindUnlay();
        layUnknown();
        layState();
        layWhereItWill();
        unlayEdges();
        weighsEdges();
        offOfTwo();
        offOfThree();
        offMinutes();
        somebodyIsLaid();
        levelAtLeavingAndThere();
        oneOff();
        faresOfABoat();
        boatsThatLeft();
        backEdges();
        laidAsTheyWere();
        backWhateverItWeighs();
        leftEdges();
        CHECK.end("BoatEdgesTest");
    }

    private static void due(String call, long want, long got) {
        CHECK.due(call, want, got);
    }

    // ---- lay, unlay

    private static void whatAnEndTakes() {
        CHECK.says("One that waits may be LAID at an END that it will sit at, if that takes one more.");
        for (int takes = 1; takes <= 8; takes++) {
            for (int end = 0; end < 3; end++) {
                FerriesLevel x = Check.ferry("B311" + takes + "0" + "P1013".repeat(8));
                for (int p = 0; p < 8; p++) {
                    due("lay(" + p + ", " + end + ") where it takes " + takes, p < takes ? p + 1 : FULL, x.lay(p, end));
                }
                due("count(3)", takes, x.count(3));
                due("weighs(" + end + ", 0)", 10 * takes, x.weighs(end, 0));
                if (takes < 8) {
                    due("the next END takes it", 1, x.lay(7, (end + 1) % 3));
                }
            }
        }
    }

    private static void oneMoreBehindUnlay() {
        CHECK.says("LAID: how many sit at that END.");
        FerriesLevel x = Check.lay(Check.ferry("B21120" + "P1013".repeat(6)), "0011");
        due("lay(4, 0)", FULL, x.lay(4, 0));
        due("lay(4, 1)", FULL, x.lay(4, 1));
        due("unlay(1)", 3, x.unlay(1));
        due("lay(4, 0) behind unlay()", 2, x.lay(4, 0));
        due("lay(1, 0)", FULL, x.lay(1, 0));
        due("leave()", 4, x.leave());
        due("lay(1, 0) behind leave()", 1, x.lay(1, 0));
        due("lay(5, 0)", 2, x.lay(5, 0));
        due("back()", 0, x.back());
        due("lay(1, 0) behind back()", FULL, x.lay(1, 0));
    }

    private static void layUnknown() {
        CHECK.says("UNKNOWN: person, end");
        for (int ends = 2; ends <= 3; ends++) {
            for (int end = -1; end <= 4; end++) {
                boolean is = end >= 0 && end < ends;
                FerriesLevel x = Check.ferry("B" + ends + "1180P1013P1013");
                due("lay(1, " + end + ") of " + ends + " ENDS", is ? 1 : UNKNOWN, x.lay(1, end));
                due("lay(2, " + end + ") of two PEOPLE", UNKNOWN, x.lay(2, end));
                due("lay(-1, " + end + ")", UNKNOWN, x.lay(-1, end));
                due("count(3)", is ? 1 : 0, x.count(3));
            }
        }
        for (int far : FAR) {
            FerriesLevel x = Check.ferry("B31180P1013P1013");
            due("lay(" + far + ", 0)", UNKNOWN, x.lay(far, 0));
            due("lay(0, " + far + ")", UNKNOWN, x.lay(0, far));
        }
        due("lay(0, 0) of nobody", UNKNOWN, new FerriesLevel().lay(0, 0));
    }

    private static void layState() {
        CHECK.says("UNKNOWN: person, end; STATE: it does not wait, is laid, or will not sit there; FULL.");
        FerriesLevel x = Check.lay(Check.leave(Check.ferry("B31180" + "P1013".repeat(5)), "012"), "---1");
        for (int end = 0; end < 3; end++) {
            for (int p = 0; p < 4; p++) {
                due("lay(" + p + ", " + end + ")", STATE, x.lay(p, end));
            }
        }
        due("person(3, 5)", 1, x.person(3, 5));
        due("lay(4, 2): it waits", 1, x.lay(4, 2));
        due("unlay(3)", 1, x.unlay(3));
        due("lay(3, 0): it is laid no more", 1, x.lay(3, 0));
    }

    private static void layWhereItWill() {
        CHECK.says("the END at which they will sit alone (0, 1, or with three ENDS 2; 3: at any)");
        for (int ends = 2; ends <= 3; ends++) {
            for (int wish = 0; wish <= 3; wish++) {
                for (int end = 0; end < ends && (wish < ends || wish == 3); end++) {
                    boolean will = wish == 3 || wish == end;
                    FerriesLevel x = Check.ferry("B" + ends + "1180P101" + wish);
                    due("lay(0, " + end + ") of one that will sit at " + wish, will ? 1 : STATE, x.lay(0, end));
                    due("person(0, 5)", will ? end : 10, x.person(0, 5));
                }
            }
        }
    }

    private static void unlayEdges() {
        CHECK.says("One that is laid is not: how many are. UNKNOWN; STATE: it is not.");
        FerriesLevel x = Check.lay(Check.ferry("B31180" + "P1013".repeat(8)), "01201201");
        for (int p = 7; p >= 0; p--) {
            due("unlay(" + p + ")", p, x.unlay(p));
            due("unlay(" + p + ") again", STATE, x.unlay(p));
            due("person(" + p + ", 5)", 10, x.person(p, 5));
        }
        due("unlay(8)", UNKNOWN, x.unlay(8));
        due("unlay(-1)", UNKNOWN, x.unlay(-1));
        for (int far : FAR) {
            due("unlay(" + far + ")", UNKNOWN, x.unlay(far));
        }
        due("unlay(0) of nobody", UNKNOWN, new FerriesLevel().unlay(0));
        FerriesLevel gone = Check.leave(Check.ferry("B21180P1013P1013"), "01");
        due("unlay(0), gone", STATE, gone.unlay(0));
        gone.back();
        due("unlay(0), taken back", 1, gone.unlay(0));
    }

    // ---- weighs, off

    private static void weighsEdges() {
        CHECK.says("What an END weighs: all who sit there, at END 0 the LIST, too.");
        for (int list = 0; list <= 9; list++) {
            FerriesLevel x = Check.ferry("B3118" + list + "P9913");
            due("weighs(0, 0) of nobody", list, x.weighs(0, 0));
            due("weighs(0, 9) of nobody", list, x.weighs(0, 9));
            due("weighs(1, 0) of nobody", 0, x.weighs(1, 0));
            due("weighs(2, 0) of nobody", 0, x.weighs(2, 0));
            x.lay(0, 2);
            due("weighs(2, 0)", 99, x.weighs(2, 0));
            due("weighs(0, 0)", list, x.weighs(0, 0));
        }
        FerriesLevel most = Check.lay(Check.ferry("B21189" + "P9913".repeat(8)), "00000000");
        for (int p = 0; p < 8; p++) {
            most.gain(p, 3);
        }
        due("weighs(0, 9) at most", 9 + 8 * (99 + 27), most.weighs(0, 9));
        CHECK.says("What an END weighs behind so many minutes. UNKNOWN; OUTSIDE: 0 to 9.");
        for (int ends = 2; ends <= 3; ends++) {
            FerriesLevel x = Check.ferry("B" + ends + "1184");
            for (int end = -1; end <= 4; end++) {
                boolean is = end >= 0 && end < ends;
                due("weighs(" + end + ", 9)", is ? end == 0 ? 4 : 0 : UNKNOWN, x.weighs(end, 9));
                due("weighs(" + end + ", 10)", is ? OUTSIDE : UNKNOWN, x.weighs(end, 10));
                due("weighs(" + end + ", 0)", is ? end == 0 ? 4 : 0 : UNKNOWN, x.weighs(end, 0));
                due("weighs(" + end + ", -1)", is ? OUTSIDE : UNKNOWN, x.weighs(end, -1));
            }
        }
    }

    private static void offOfTwo() {
        CHECK.says("OFF: with two ENDS a times what END 0 weighs, less b times what END 1 weighs");
        for (int a = 1; a <= 3; a++) {
            for (int b = 1; b <= 3; b++) {
                FerriesLevel x = Check.lay(Check.ferry("B2" + a + b + "87P1013P4013"), "01");
                due("off(0) of arms " + a + " and " + b, 10000 + 17 * a - 40 * b, x.off(0));
            }
        }
        FerriesLevel most = Check.lay(Check.ferry("B23189" + "P9913".repeat(8)), "00000000");
        FerriesLevel least = Check.lay(Check.ferry("B21380" + "P9913".repeat(8)), "11111111");
        for (int p = 0; p < 8; p++) {
            most.gain(p, 3);
            least.gain(p, 3);
        }
        due("off(9) at most", 10000 + 3 * (9 + 8 * 126), most.off(9));
        due("off(9) at least", 10000 - 3 * 8 * 126, least.off(9));
        due("off(0) of nobody", 10000, new FerriesLevel().off(0));
    }

    private static void offOfThree() {
        CHECK.says("with three the greatest that an END weighs less the least");
        String[] seats = {"012", "021", "102", "120", "201", "210"};
        for (String ends : seats) {
            due("off(0) of " + ends, 10030, Check.lay(Check.ferry("B33180P1013P2013P4013"), ends).off(0));
        }
        due("off(0): one END has nobody", 10040, Check.lay(Check.ferry("B31180P1013P4013"), "12").off(0));
        due("off(0): all like", 10000, Check.lay(Check.ferry("B31180P1013P1013P1013"), "012").off(0));
        due("off(0): two like and greatest", 10001, Check.lay(Check.ferry("B31180P1013P1013P0913"), "012").off(0));
        due("off(0): two like and least", 10001, Check.lay(Check.ferry("B31180P1013P1013P1113"), "012").off(0));
        due("off(0) of the LIST", 10009, Check.ferry("B33389").off(0));
    }

    private static void offMinutes() {
        CHECK.says("OFF behind so many minutes, and 10000. OUTSIDE.");
        FerriesLevel x = Check.lay(Check.ferry("B21180P1013"), "1");
        x.gain(0, 1);
        x.minutes(5);
        due("off(0)", 9990, x.off(0));
        due("off(9)", 9981, x.off(9));
        due("off(-1)", OUTSIDE, x.off(-1));
        due("off(10)", OUTSIDE, x.off(10));
        for (int far : FAR) {
            due("off(" + far + ")", OUTSIDE, x.off(far));
        }
    }

    // ---- leave

    private static void somebodyIsLaid() {
        CHECK.says("THE BOAT LEAVES, if somebody is laid, and it is LEVEL: they are gone");
        due("leave() of a new object, which is level", STATE, new FerriesLevel().leave());
        FerriesLevel x = Check.ferry("B31180P1013P1013P1013");
        due("off(0) of nobody", 10000, x.off(0));
        due("leave() of nobody, level", STATE, x.leave());
        Check.lay(x, "01");
        due("leave() of two at three ENDS", STATE, x.leave());
        due("count(5)", 0, x.count(5));
        due("count(3)", 2, x.count(3));
        x.lay(2, 2);
        due("leave()", 3, x.leave());
        due("leave() again: nobody is laid", STATE, x.leave());
        due("leave() of one, against the LIST", 1, Check.lay(Check.ferry("B21189P0913"), "1").leave());
    }

    private static FerriesLevel two(String text, int gainOfZero, int gainOfOne, int minutes) {
        FerriesLevel x = Check.lay(Check.ferry(text), "01");
        x.gain(0, gainOfZero);
        x.gain(1, gainOfOne);
        x.minutes(minutes);
        return x;
    }

    private static void levelAtLeavingAndThere() {
        CHECK.says("It is LEVEL, if that is 0 when it leaves, and when it is there (behind its MINUTES).");
        due("leave(), level at both", 2, two("B21180P1013P1013", 1, 1, 9).leave());
        due("leave(), level when it leaves alone", STATE, two("B21180P1013P1013", 1, 0, 1).leave());
        due("leave(), level when it is there alone", STATE, two("B21180P1013P1113", 1, 0, 1).leave());
        due("leave(), of 0 MINUTES", 2, two("B21180P1013P1013", 3, -3, 0).leave());
        // 3 pounds each: 0 against 2 behind one minute, 0 and 0 behind three
        due("leave(), not level half way", 2, two("B21180P0313P0313", -3, -1, 3).leave());
        due("leave(), half way there", STATE, two("B21180P0313P0313", -3, -1, 2).leave());
        due("leave(), both weigh 0 when there", 2, two("B21180P2713P2713", -3, -3, 9).leave());
        due("leave(), 0 at least", 2, two("B21180P0413P0413", -3, -2, 2).leave());
        due("leave(), 1 more than 0", STATE, two("B21180P0513P0513", -3, -2, 2).leave());
        // the LIST gains nothing: 5 and 10 against 15 and then 5 and 13 against 18
        due("leave() with the LIST", 2, two("B21185P1013P1513", 1, 1, 3).leave());
        due("leave() with arms", 2, two("B22180P1013P2013", 1, 2, 9).leave());
        due("leave() with arms, gaining alike", STATE, two("B22180P1013P2013", 1, 1, 9).leave());
    }

    private static void oneOff() {
        CHECK.says("STATE: nobody is laid, or it is not LEVEL");
        due("leave(), one less at END 0", STATE, Check.lay(Check.ferry("B21180P0913P1013"), "01").leave());
        due("leave(), one more at END 0", STATE, Check.lay(Check.ferry("B21180P1113P1013"), "01").leave());
        due("leave(), level", 2, Check.lay(Check.ferry("B21180P1013P1013"), "01").leave());
        for (int end = 0; end < 3; end++) {
            for (String weight : new String[] {"09", "10", "11"}) {
                String[] p = {"P1013", "P1013", "P1013"};
                p[end] = "P" + weight + "13";
                due("leave() of " + weight + " at END " + end, weight.equals("10") ? 3 : STATE,
                        Check.lay(Check.ferry("B31180" + p[0] + p[1] + p[2]), "012").leave());
            }
        }
    }

    private static void faresOfABoat() {
        CHECK.says("THE BOAT LEAVES: what fares that brings.");
        due("leave() without fares", 0, Check.lay(Check.ferry("B21180P1003P1003"), "01").leave());
        due("leave() of all at most", 72, Check.lay(Check.ferry("B21180" + "P9993".repeat(8)), "00001111").leave());
        FerriesLevel x = Check.lay(Check.ferry("B21180P1013P1023P1043P1083"), "-10");
        due("leave() of 1 and 2", 6, x.leave());
        Check.lay(x, "0--1");
        due("leave() of 0 and 3", 9, x.leave());
        due("count(6)", 15, x.count(6));
    }

    private static void boatsThatLeft() {
        CHECK.says("it is a BOAT that left (numbered; 8 at most; their ENDS are kept)");
        FerriesLevel x = Check.ferry("B21119" + "P0911".repeat(8));
        for (int p = 0; p < 8; p++) {
            due("count(5) ahead of boat " + p, p, x.count(5));
            due("left(" + p + ", 1) ahead of it", UNKNOWN, x.left(p, 1));
            x.lay(p, 1);
            due("leave() of boat " + p, 1, x.leave());
            due("left(" + p + ", 1)", 1 << p, x.left(p, 1));
            due("left(0, 1)", 1, x.left(0, 1));
        }
        due("count(5)", 8, x.count(5));
        due("count(2): nobody waits", 0, x.count(2));
        CHECK.says("WAITING are PEOPLE that are not gone.");
        due("count(4): all are gone", 8, x.count(4));
        due("lay(7, 1)", STATE, x.lay(7, 1));
        CHECK.says("STATE: nobody is laid, or it is not LEVEL; FULL: 8.");
        // eight boats took all eight PEOPLE, so nobody is laid, and STATE is named first
        due("leave() behind eight", STATE, x.leave());
        due("count(5) behind it", 8, x.count(5));
        x.back();
        due("leave() of the eighth once more", 1, x.leave());
        due("left(7, 1)", 128, x.left(7, 1));
    }

    // ---- back, left

    private static void backEdges() {
        CHECK.says("The last BOAT is taken back: how many left. STATE: none did.");
        due("back() of a new object", STATE, new FerriesLevel().back());
        FerriesLevel x = Check.eightBoats();
        for (int boats = 7; boats >= 0; boats--) {
            due("back()", boats, x.back());
            due("count(5)", boats, x.count(5));
            due("count(3)", 1, x.count(3));
            due("count(2)", 8 - boats, x.count(2));
            due("left(" + boats + ", 1)", UNKNOWN, x.left(boats, 1));
        }
        due("back() of none", STATE, x.back());
        due("person(0, 5) behind it", 1, x.person(0, 5));
        due("leave()", 1, x.leave());
        due("back()", 0, x.back());
    }

    private static void laidAsTheyWere() {
        CHECK.says("they are laid as they were (who was laid since then, is not)");
        FerriesLevel x = Check.leave(Check.ferry("B31120" + "P1013".repeat(8)), "210", "---012");
        Check.lay(x, "------01");
        due("back()", 1, x.back());
        int[] want = {20, 20, 20, 0, 1, 2, 10, 10};
        for (int p = 0; p < 8; p++) {
            due("person(" + p + ", 5)", want[p], x.person(p, 5));
        }
        due("unlay(3)", 2, x.unlay(3));
        due("lay(6, 0)", 1, x.lay(6, 0));
        due("back()", 0, x.back());
        int[] behind = {2, 1, 0, 10, 10, 10, 10, 10};
        for (int p = 0; p < 8; p++) {
            due("person(" + p + ", 5)", behind[p], x.person(p, 5));
        }
        due("leave() once more", 3, x.leave());
        due("count(3): of the second boat nobody is laid", 0, x.count(3));
        due("person(3, 5)", 10, x.person(3, 5));
        // an END that takes one: who was laid there since then makes room
        FerriesLevel one = Check.lay(Check.leave(Check.ferry("B21110P1013P1013P1013"), "01"), "--0");
        due("back()", 0, one.back());
        due("person(0, 5)", 0, one.person(0, 5));
        due("person(2, 5)", 10, one.person(2, 5));
        due("lay(2, 0)", FULL, one.lay(2, 0));
    }

    private static void backWhateverItWeighs() {
        CHECK.says("The last one can be taken back");
        FerriesLevel x = Check.leave(Check.ferry("B21180P1013P1013"), "01");
        x.gain(0, 3);
        x.minutes(9);
        due("back() of one that is level no more", 0, x.back());
        due("leave() of it", STATE, x.leave());
        x.minutes(0);
        due("leave() of it, level again", 2, x.leave());
    }

    private static void leftEdges() {
        CHECK.says("Who sat at an END of a BOAT that left, as bits. UNKNOWN: boat, end.");
        FerriesLevel x = Check.leave(Check.ferry("B21180" + "P1013".repeat(8)), "01", "--000111");
        due("left(0, 0)", 1, x.left(0, 0));
        due("left(0, 1)", 2, x.left(0, 1));
        due("left(1, 0)", 4 + 8 + 16, x.left(1, 0));
        due("left(1, 1)", 32 + 64 + 128, x.left(1, 1));
        for (int boat = -1; boat <= 3; boat++) {
            for (int end = -1; end <= 3; end++) {
                boolean is = boat >= 0 && boat < 2 && end >= 0 && end < 2;
                due("left(" + boat + ", " + end + ") is known", is ? 1 : 0, x.left(boat, end) == UNKNOWN ? 0 : 1);
            }
        }
        for (int far : FAR) {
            due("left(" + far + ", 0)", UNKNOWN, x.left(far, 0));
            due("left(0, " + far + ")", UNKNOWN, x.left(0, far));
        }
        FerriesLevel all = Check.leave(Check.ferry("B23189" + "P0911".repeat(3)), "111");
        due("left(0, 0) of nobody", 0, all.left(0, 0));
        due("left(0, 1) of all", 7, all.left(0, 1));
        due("left(0, 2) of two ENDS", UNKNOWN, all.left(0, 2));
        FerriesLevel three = Check.leave(Check.ferry("B31180P1013P1013P1013"), "120");
        due("left(0, 2) of three", 2, three.left(0, 2));
        due("left(0, 3) of three", UNKNOWN, three.left(0, 3));
        due("left(0, 0) of none", UNKNOWN, new FerriesLevel().left(0, 0));
    }
}
