/** Promises 17 to 26: best, bestAt, worth, makes, bestMakes, sets, crossings, all, rule, ruleAt. */
public final class ChoicesTest {
    private static final Check CHECK = new Check();

    private static void due(String call, long want, long got) {
        CHECK.due(call, want, got);
    }

    public static void main(String[] args) {
        best();
        bestOfLikeFares();
        bestOfThree();
        bestFollowsTheState();
        worth();
        makes();
        makesOfThree();
        bestMakes();
        sets();
        crossings();
        all();
        rule();
        ruleAtArms();
        nobody();
        CHECK.end("ChoicesTest");
    }

    private static void bestAts(String name, FerriesLevel x, int... ends) {
        for (int p = 0; p < ends.length; p++) {
            due(name + " bestAt(" + p + ")", ends[p], x.bestAt(p));
        }
    }

    private static void best() {
        FerriesLevel none = Check.ferry("B21180P1013P1113");
        due("17 best() of none", FerriesLevel.NONE, none.best());
        bestAts("18 none:", none, FerriesLevel.NONE, FerriesLevel.NONE);
        FerriesLevel free = Check.ferry("B21180P1003P1003");
        due("17 best() without fares", 0, free.best());
        bestAts("18 free:", free, 0, 1);
        FerriesLevel x = Check.ferry("B21180P1013P1013P2093P2093P0550");
        due("17 best()", 20, x.best());
        due("18 bestAt(5)", FerriesLevel.UNKNOWN, x.bestAt(5));
        due("18 bestAt(-1)", FerriesLevel.UNKNOWN, x.bestAt(-1));
        FerriesLevel narrow = Check.ferry("B21110P1013P1013P2093P2093");
        due("17 best() where an end takes one", 18, narrow.best());
        FerriesLevel wish = Check.ferry("B21180P1091P1091P2080");
        due("17 best() of those that sit at one end", 26, wish.best());
        bestAts("18 wish:", wish, 1, 1, 0);
        FerriesLevel like = Check.ferry("B21180P1091P1091");
        due("17 best() of two at one end", FerriesLevel.NONE, like.best());
        // 3 times 8 and the list, 9, against 25 and 26
        FerriesLevel list = Check.ferry("B23189P0853P2521P2631P0990");
        due("17 best() with the list and arms", 10, list.best());
        bestAts("18 list:", list, 0, 1, 1, FerriesLevel.NONE);
    }

    private static void bestOfLikeFares() {
        // fares alike: more people first
        FerriesLevel more = Check.ferry("B21180P1053P1053P2003P2003");
        due("17 best()", 10, more.best());
        bestAts("18 most people:", more, 0, 1, 0, 1);
        FerriesLevel x = Check.ferry("B21110P1013P1013P1013");
        due("17 best() of like ones", 2, x.best());
        // not chosen is ahead of END 0
        bestAts("18 the first:", x, FerriesLevel.NONE, 0, 1);
        FerriesLevel ends = Check.ferry("B21180P1013P1013");
        bestAts("18 END 0 ahead of 1:", ends, 0, 1);
        // {0, 3 | 1} and {2 | 1, 4} bring alike, and are as many
        FerriesLevel not = Check.ferry("B21180P1010P2011P3010P1010P1011");
        bestAts("18 not chosen ahead of END 0:", not, FerriesLevel.NONE, 1, 0, FerriesLevel.NONE, 1);
        FerriesLevel zero = Check.ferry("B21180P3013P1013P1013P1013");
        bestAts("18 END 0 ahead of END 1:", zero, 0, 1, 1, 1);
        FerriesLevel fares = Check.ferry("B21110P1093P1013P1093P1013");
        due("17 fares ahead of all", 18, fares.best());
        bestAts("18 fares:", fares, 0, FerriesLevel.NONE, 1, FerriesLevel.NONE);
    }

    private static void bestOfThree() {
        FerriesLevel x = Check.ferry("B31180P1013P1013P1013P2073");
        due("17 best() of three ends", 3, x.best());
        bestAts("18 three:", x, 0, 1, 2, FerriesLevel.NONE);
        FerriesLevel one = Check.ferry("B31180P1013P1011P1010P1012");
        bestAts("18 not chosen ahead of the rest:", one, FerriesLevel.NONE, 1, 0, 2);
        FerriesLevel two = Check.ferry("B31180P1013P1011P1010P1012P2090P2091P2092");
        due("17 best() of three ends with all but one", 30, two.best());
        FerriesLevel y = Check.ferry("B33180P2013P1010P1023P2042P2033");
        due("17 best(): no arms with three ends", 10, y.best());
        bestAts("18 no arms:", y, FerriesLevel.NONE, 0, 0, 2, 1);
        FerriesLevel z = Check.ferry("B31189P1133P2093P2093P0923");
        due("17 best() of three with the list", 21, z.best());
        bestAts("18 list:", z, 0, 1, 2, FerriesLevel.NONE);
    }

    private static void bestFollowsTheState() {
        FerriesLevel x = Check.ferry("B21180P1013P1013P2023P2023");
        due("17 best()", 6, x.best());
        x.lay(0, 0);
        x.lay(1, 1);
        due("17 what is laid does not count", 6, x.best());
        x.leave();
        due("17 best() behind leave", 4, x.best());
        bestAts("18 gone:", x, FerriesLevel.NONE, FerriesLevel.NONE, 0, 1);
        due("19 worth(0): gone", FerriesLevel.STATE, x.worth(0));
        x.keep(0);
        x.back();
        due("17 best() behind back", 6, x.best());
        x.gain(3, 1);
        due("17 best() behind a gain of no minutes", 6, x.best());
        x.minutes(1);
        due("17 best() behind minutes", 4, x.best());
        x.gain(2, 1);
        due("17 best() behind a gain", 6, x.best());
        x.again(0);
        due("17 best() behind again", 4, x.best());
    }

    private static void worth() {
        FerriesLevel x = Check.ferry("B21180P1013P1023P1043P9993");
        due("17 best()", 6, x.best());
        due("19 worth(0)", 0, x.worth(0));
        due("19 worth(1)", 1, x.worth(1));
        due("19 worth(2)", 3, x.worth(2));
        due("19 worth(3)", 0, x.worth(3));
        due("19 worth(4)", FerriesLevel.UNKNOWN, x.worth(4));
        due("19 worth(-1)", FerriesLevel.UNKNOWN, x.worth(-1));
        FerriesLevel y = Check.ferry("B21180P1013P1023");
        due("19 worth(0), none without it", 3, y.worth(0));
        y.lay(0, 0);
        due("19 worth(0), laid", 3, y.worth(0));
        y.lay(1, 1);
        y.leave();
        due("19 worth(0), gone", FerriesLevel.STATE, y.worth(0));
        FerriesLevel none = Check.ferry("B21180P1013P1123");
        due("19 worth(0) of no choice", 0, none.worth(0));
    }

    private static void makes() {
        FerriesLevel x = Check.ferry("B21180P1073P1323");
        due("20 makes(3)", 9, x.makes(3));
        due("20 makes(10)", 7, x.makes(10));
        due("20 makes(13)", 2, x.makes(13));
        due("20 makes(23)", 9, x.makes(23));
        due("20 makes(4)", 0, x.makes(4));
        due("20 makes(1)", 0, x.makes(1));
        due("20 makes(99)", 0, x.makes(99));
        due("20 makes(0)", FerriesLevel.OUTSIDE, x.makes(0));
        due("20 makes(100)", FerriesLevel.OUTSIDE, x.makes(100));
        due("20 makes(-1)", FerriesLevel.OUTSIDE, x.makes(-1));
        FerriesLevel narrow = Check.ferry("B21110P1073P1323");
        due("20 makes(3): the end takes one less", 0, narrow.makes(3));
        due("20 makes(10) at the other end", 7, narrow.makes(10));
        FerriesLevel more = Check.ferry("B21180P1033P1033P2593");
        due("20 makes(5) more than the best", 9, more.makes(5));
        due("20 makes(20): it may stay", 0, more.makes(20));
        // 2 times END 0, 3 times END 1: 12 against 8, or 18 against 12
        FerriesLevel arms = Check.ferry("B22380P1293");
        due("20 makes(8) with arms", 9, arms.makes(8));
        due("20 makes(18) with arms", 9, arms.makes(18));
        due("20 makes(12) with arms", 0, arms.makes(12));
        FerriesLevel odd = Check.ferry("B22380P1193");
        due("20 makes(7): 22 is no three times", 0, odd.makes(7));
        due("20 makes(16): 33 is no two times", 0, odd.makes(16));
        due("20 makes(17): 33 is no two times", 0, odd.makes(17));
        FerriesLevel gains = Check.ferry("B21180P1093P1083");
        gains.gain(0, 1);
        gains.minutes(3);
        due("20 makes(10): it gains nothing", 8, gains.makes(10));
        due("20 makes(20)", 0, gains.makes(20));
        FerriesLevel list = Check.ferry("B21189P1093");
        due("20 makes(1) with the list", 9, list.makes(1));
        due("20 makes(19) with the list", 9, list.makes(19));
        due("20 makes(9) alone brings nothing", 0, list.makes(9));
    }

    private static void makesOfThree() {
        FerriesLevel x = Check.ferry("B33180P1040P1051P2061");
        due("20 makes(10) at END 2", 9, x.makes(10));
        due("20 makes(20)", 0, x.makes(20));
        FerriesLevel y = Check.ferry("B31180P1041P1052");
        due("20 makes(10) at END 0", 9, y.makes(10));
        FerriesLevel z = Check.ferry("B31180P1040P1052");
        due("20 makes(10) at END 1", 9, z.makes(10));
        FerriesLevel two = Check.ferry("B31110P1041P1052P0330");
        due("20 makes(7) where an end takes one", 0, two.makes(7));
        due("20 makes(10) where an end takes one", 9, two.makes(10));
        FerriesLevel wide = Check.ferry("B31120P1041P1052P0330");
        due("20 makes(7) where it takes two", 12, wide.makes(7));
    }

    private static void bestMakes() {
        FerriesLevel x = Check.ferry("B21180P1073P1323");
        due("21 bestMakes(): of like ones the least", 3, x.bestMakes());
        FerriesLevel none = Check.ferry("B21180P1073P1023");
        due("21 bestMakes(): none brings more", FerriesLevel.NONE, none.bestMakes());
        FerriesLevel most = Check.ferry("B21110P1073P1383");
        due("21 bestMakes() by fares", 13, most.bestMakes());
        FerriesLevel far = Check.ferry("B21180P9993P9891");
        due("21 bestMakes()", 1, far.bestMakes());
        FerriesLevel last = Check.ferry("B21110P9993");
        due("21 bestMakes() of 99", 99, last.bestMakes());
        FerriesLevel least = Check.ferry("B21110P1013");
        due("21 bestMakes() that brings 1", 10, least.bestMakes());
        least.gain(0, 1);
        least.minutes(1);
        due("21 bestMakes() of one that gains", FerriesLevel.NONE, least.bestMakes());
        least.minutes(0);
        due("21 bestMakes() of no minutes", 10, least.bestMakes());
        FerriesLevel beyond = Check.ferry("B21189P9990");
        due("21 bestMakes() of more than 99", FerriesLevel.NONE, beyond.bestMakes());
    }

    private static void sets() {
        FerriesLevel x = Check.ferry("B21180P1013P1013P2023");
        // {0, 1}, {0, 1, 2}
        due("22 sets()", 2, x.sets());
        FerriesLevel four = Check.ferry("B21180" + "P1013".repeat(4));
        due("22 sets() of four: 6 twos and all", 7, four.sets());
        FerriesLevel narrow = Check.ferry("B21110" + "P1013".repeat(4));
        due("22 sets() where an end takes one", 6, narrow.sets());
        FerriesLevel eight = Check.ferry("B21180" + "P1013".repeat(8));
        due("22 sets() of eight", 28 + 70 + 28 + 1, eight.sets());
        FerriesLevel three = Check.ferry("B31180" + "P1013".repeat(8));
        due("22 sets() of eight at three ends", 56 + 28, three.sets());
        eight.lay(0, 0);
        eight.lay(1, 1);
        eight.leave();
        due("22 sets() of those that wait", 15 + 15 + 1, eight.sets());
    }

    private static void crossings() {
        FerriesLevel x = Check.ferry("B21110P1013P1023P2033P2043P3053P3063P4073P4083");
        due("23 crossings(1)", 15, x.crossings(1));
        due("23 crossings(2)", 26, x.crossings(2));
        due("23 crossings(3)", 33, x.crossings(3));
        due("23 crossings(4)", 36, x.crossings(4));
        due("23 crossings(0)", FerriesLevel.OUTSIDE, x.crossings(0));
        due("23 crossings(5)", FerriesLevel.OUTSIDE, x.crossings(5));
        due("23 crossings(-1)", FerriesLevel.OUTSIDE, x.crossings(-1));
        FerriesLevel few = Check.ferry("B21110P1013P1023P2033");
        due("23 crossings(4) or fewer", 3, few.crossings(4));
        FerriesLevel each = Check.ferry("B21110P1013P1013P1013");
        due("23 crossings(2): each person in one", 2, each.crossings(2));
        FerriesLevel split = Check.ferry("B21120P1093P1093P2013P3013P3003");
        due("23 crossings(1)", 19, split.crossings(1));
        due("23 crossings(2)", 20, split.crossings(2));
        // with the best choice, 0 and 4 against 2, first, nothing more would leave
        FerriesLevel greed = Check.ferry("B21185P1090P2050P2591P1551P1000");
        due("23 crossings(1) of greed", 18, greed.crossings(1));
        due("23 crossings(2) of greed", 28, greed.crossings(2));
        due("23 crossings(3) of greed", 28, greed.crossings(3));
        FerriesLevel none = Check.ferry("B21110P1013");
        due("23 crossings(1) of none", 0, none.crossings(1));
    }

    private static void all() {
        FerriesLevel x = Check.ferry("B21110P1013P1023P2033P2043P3053P3063P4073P4083");
        due("24 all()", 4, x.all());
        FerriesLevel wide = Check.ferry("B21180P1013P1023P2033P2043P3053P3063P4073P4083");
        due("24 all() at once", 1, wide.all());
        FerriesLevel never = Check.ferry("B21180P1013P1023P3003");
        due("24 all(): one stays", FerriesLevel.NONE, never.all());
        FerriesLevel alone = Check.ferry("B21119" + "P0911".repeat(8));
        due("24 all() one by one", 8, alone.all());
        for (int p = 0; p < 8; p++) {
            alone.lay(p, 1);
            alone.leave();
            due("24 all() of those that wait", 7 - p, alone.all());
        }
        FerriesLevel laid = Check.ferry("B21180P1013P1013");
        laid.lay(0, 0);
        due("24 all() of laid ones, too", 1, laid.all());
    }

    private static void rule() {
        FerriesLevel x = Check.ferry("B21180P1013P1023P2043P2083");
        due("25 rule()", 15, x.rule());
        int[] want = {0, 1, 0, 1};
        for (int p = 0; p < 4; p++) {
            due("26 ruleAt(" + p + ")", want[p], x.ruleAt(p));
        }
        FerriesLevel not = Check.ferry("B21180P1013P1123");
        due("25 rule() not level", 0, not.rule());
        due("26 ruleAt(1)", 1, not.ruleAt(1));
        due("26 ruleAt(2)", FerriesLevel.UNKNOWN, not.ruleAt(2));
        due("26 ruleAt(-1)", FerriesLevel.UNKNOWN, not.ruleAt(-1));
        FerriesLevel full = Check.ferry("B21110P1013P1023P1043");
        due("25 rule() with one that stays", 3, full.rule());
        due("26 ruleAt(2): it stays", FerriesLevel.NONE, full.ruleAt(2));
        FerriesLevel wish = Check.ferry("B21110P1010P1020P1013P1043");
        due("26 ruleAt(1): END 0 takes no more", FerriesLevel.NONE, wish.ruleAt(1));
        due("26 ruleAt(2)", 1, wish.ruleAt(2));
        due("25 rule() of wishes", 2, wish.rule());
        FerriesLevel gone = Check.ferry("B21180P1013P1023P2043P2083");
        gone.lay(0, 1);
        due("25 rule(): what is laid does not count", 15, gone.rule());
        gone.lay(1, 0);
        gone.leave();
        due("26 ruleAt(0): gone", FerriesLevel.NONE, gone.ruleAt(0));
        due("26 ruleAt(2) of those that wait", 0, gone.ruleAt(2));
        due("25 rule() of those that wait", 12, gone.rule());
        gone.gain(2, 1);
        gone.minutes(2);
        due("25 rule() not level when it is there", 0, gone.rule());
    }

    private static void ruleAtArms() {
        FerriesLevel x = Check.ferry("B23180P1013P2013P1013");
        // 3 times 10 at END 0 is more than 20 at END 1
        due("26 arms: ruleAt(0)", 0, x.ruleAt(0));
        due("26 arms: ruleAt(1)", 1, x.ruleAt(1));
        due("26 arms: ruleAt(2)", 1, x.ruleAt(2));
        due("25 arms: rule()", 3, x.rule());
        FerriesLevel list = Check.ferry("B21189P0913P1013P1013");
        due("26 list: ruleAt(0)", 1, list.ruleAt(0));
        due("26 list: ruleAt(1): of like ones the least", 0, list.ruleAt(1));
        due("26 list: ruleAt(2)", 1, list.ruleAt(2));
        due("25 list: rule()", 3, list.rule());
        FerriesLevel three = Check.ferry("B33189P0913P0913P1013P1013P1013");
        int[] want = {1, 2, 0, 1, 2};
        for (int p = 0; p < 5; p++) {
            due("26 three: ruleAt(" + p + ")", want[p], three.ruleAt(p));
        }
        due("25 three: rule()", 5, three.rule());
        FerriesLevel gains = Check.ferry("B21180P1013P0913P0113");
        gains.gain(1, 3);
        gains.minutes(9);
        due("26 by what it weighs at leaving", 1, gains.ruleAt(2));
    }

    private static void nobody() {
        FerriesLevel x = new FerriesLevel();
        due("17 best() of nobody", FerriesLevel.NONE, x.best());
        due("18 bestAt(0) of nobody", FerriesLevel.UNKNOWN, x.bestAt(0));
        due("19 worth(0) of nobody", FerriesLevel.UNKNOWN, x.worth(0));
        due("20 makes(1) of nobody", 0, x.makes(1));
        due("21 bestMakes() of nobody", FerriesLevel.NONE, x.bestMakes());
        due("22 sets() of nobody", 0, x.sets());
        due("23 crossings(4) of nobody", 0, x.crossings(4));
        due("24 all() of nobody", 0, x.all());
        due("25 rule() of nobody", 0, x.rule());
        FerriesLevel list = Check.ferry("B31185");
        due("17 best() of the list alone", FerriesLevel.NONE, list.best());
        due("20 makes(5) of the list alone", 0, list.makes(5));
        due("25 rule() of the list alone", 0, list.rule());
    }
}
