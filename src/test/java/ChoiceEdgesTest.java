/** Promises 17 to 26, "==== 2 A CHOICE": each sentence that names a boundary case. */
public final class ChoiceEdgesTest {
    private static final int UNKNOWN = FerriesLevel.UNKNOWN;
    private static final int OUTSIDE = FerriesLevel.OUTSIDE;
    private static final int STATE = FerriesLevel.STATE;
    private static final int NONE = FerriesLevel.NONE;
    private static final int[] FAR = {Integer.MIN_VALUE, -100, 256, 1000, Integer.MAX_VALUE};
    private static final String EACH_ALONE = "B21119" + "P0911".repeat(8);
    private static final Check CHECK = new Check();

    public static void main(String[] args) {
        somebody();
        whereTheyWillSit();
        noMoreThanItTakes();
        levelAtBothTimes();
        ofThoseWaiting();
        whatIsLaid();
        asItIsNow();
        mostFares();
        mostPeople();
        notChosenAhead();
        lowerEndAhead();
        byPersonZeroFirst();
        bestAnswers();
        whoIsChosen();
        worthEdges();
        makesBounds();
        endTakesOneLess();
        whatAMakeWeightIs();
        byHowMuchMore();
        bestMakesEdges();
        setsEdges();
        crossingsEdges();
        allEdges();
        ruleByNumber();
        ruleOfLikeEnds();
        ruleStays();
        ruleLevel();
        ruleOfThoseWaiting();
        CHECK.end("ChoiceEdgesTest");
    }

    private static void due(String call, long want, long got) {
        CHECK.due(call, want, got);
    }

    /** Where each PERSON is in THE BEST CHOICE: an END, or '-' if it is not chosen. */
    private static void chosen(String text, String want) {
        CHECK.same("the best of " + text, want, ends(Check.ferry(text), want.length(), false));
    }

    private static void ruled(String text, String want) {
        CHECK.same("the rule of " + text, want, ends(Check.ferry(text), want.length(), true));
    }

    private static String ends(FerriesLevel x, int people, boolean byRule) {
        StringBuilder b = new StringBuilder();
        for (int p = 0; p < people; p++) {
            int end = byRule ? x.ruleAt(p) : x.bestAt(p);
            b.append(end == NONE ? "-" : end >= 0 && end <= 2 ? "" + end : "?");
        }
        return b.toString();
    }

    private static FerriesLevel with(String text, int minutes, int... gains) {
        FerriesLevel x = Check.ferry(text);
        for (int p = 0; p < gains.length; p++) {
            x.gain(p, gains[p]);
        }
        x.minutes(minutes);
        return x;
    }

    // ---- what a choice is

    private static void somebody() {
        CHECK.says("A CHOICE: .. somebody, and LEVEL.");
        for (FerriesLevel x : new FerriesLevel[] {new FerriesLevel(), Check.ferry("B31180"), Check.ferry("B21180P1093"),
            Check.eightBoats()}) {
            due("best(): nobody would be level", NONE, x.best());
            due("sets(): nobody would be level", 0, x.sets());
            due("crossings(4)", 0, x.crossings(4));
        }
        due("best() of one, against the LIST", 5, Check.ferry("B21189P0951").best());
        due("sets() of one, against the LIST", 1, Check.ferry("B21189P0951").sets());
    }

    private static void whereTheyWillSit() {
        CHECK.says("each at one that it will sit at");
        due("best() of two at END 0", NONE, Check.ferry("B21180P1010P1010").best());
        due("best() of two at END 1", NONE, Check.ferry("B21180P1011P1011").best());
        chosen("B21180P1011P1010", "10");
        chosen("B21180P1011P1013", "10");
        chosen("B31180P1012P1010P1011", "201");
        chosen("B31180P1012P1013P1010", "210");
        due("best() of two at END 2", NONE, Check.ferry("B31180P1012P1012P1013").best());
    }

    private static void noMoreThanItTakes() {
        CHECK.says("no END with more than it takes");
        for (int takes = 1; takes <= 8; takes++) {
            String people = takes + "0" + "P1013".repeat(8);
            due("best() of two ENDS that take " + takes, Math.min(8, 2 * takes), Check.ferry("B211" + people).best());
            due("best() of three that take " + takes, Math.min(6, 3 * takes), Check.ferry("B311" + people).best());
            // 70 against seven of 10
            int seven = takes < 7 ? NONE : 8;
            due("best() of seven at an END that takes " + takes, seven,
                    Check.ferry("B211" + takes + "0P7010" + "P1011".repeat(7)).best());
        }
    }

    private static void levelAtBothTimes() {
        CHECK.says("It is LEVEL, if that is 0 when it leaves, and when it is there (behind its MINUTES).");
        due("best() of gains and no MINUTES", 2, with("B21180P1013P1013", 0, 3, -3).best());
        due("best() not level when there", NONE, with("B21180P1013P1013", 1, 1, 0).best());
        due("best() level when there alone", NONE, with("B21180P1013P1113", 1, 1, 0).best());
        due("best() level at both", 2, with("B21180P1013P1013", 9, 3, 3).best());
        due("best() of both 0 when there", 2, with("B21180P0413P0413", 2, -3, -2).best());
        due("best() of 0 and 1 when there", NONE, with("B21180P0513P0513", 2, -3, -2).best());
        due("best() not level half way", 2, with("B21180P0313P0313", 3, -3, -1).best());
        due("best() with all that can be", 72, with("B21180" + "P9993".repeat(8), 9, 3, 3, 3, 3, 3, 3, 3, 3).best());
        due("best() with arms", 2, with("B22180P1013P2013", 9, 1, 2).best());
        due("best() with the LIST", 2, with("B21189P1010P1911", 9, 3, 3).best());
        due("best() of three", 3, with("B31180P1013P1013P1013", 9, 1, 1, 1).best());
        due("best() of three, one gains", NONE, with("B31180P1013P1013P1013", 9, 0, 0, 1).best());
    }

    private static void ofThoseWaiting() {
        CHECK.says("A CHOICE: which of those WAITING sit at which END");
        FerriesLevel x = Check.leave(Check.ferry("B21180P1013P1023P1043P1083"), "01");
        due("best() of those that wait", 12, x.best());
        CHECK.same("their ENDS", "--01", ends(x, 4, false));
        x.back();
        due("best() behind back()", 15, x.best());
        FerriesLevel gone = Check.eightBoats();
        due("best() where all are gone", NONE, gone.best());
        gone.back();
        due("best() of the one taken back", 1, gone.best());
        due("bestAt(7)", 1, gone.bestAt(7));
    }

    private static void whatIsLaid() {
        CHECK.says("(What is laid does not count for that.)");
        String text = "B21120P1013P1023P1043P2083P4003";
        String plain = choicesOf(Check.ferry(text));
        CHECK.same("choices with one laid", plain, choicesOf(Check.lay(Check.ferry(text), "1")));
        CHECK.same("choices with END 1 full", plain, choicesOf(Check.lay(Check.ferry(text), "--11")));
        CHECK.same("choices with both full", plain, choicesOf(Check.lay(Check.ferry(text), "00-11")));
    }

    /** Each call that changes who waits, or what they weigh, is asked behind once more, on one object. */
    private static void asItIsNow() {
        CHECK.says("A CHOICE: which of those WAITING sit at which END (..), somebody, and LEVEL.");
        String text = "B21120P1013P1023P1043P2083P4003";
        FerriesLevel x = Check.ferry(text);
        String plain = choicesOf(x);
        x.gain(0, 1);
        CHECK.same("choices of a gain and no MINUTES", plain, choicesOf(x));
        x.minutes(1);
        CHECK.same("choices behind minutes()", choicesOf(with(text, 1, 1)), choicesOf(x));
        x.gain(1, 1);
        CHECK.same("choices behind gain()", choicesOf(with(text, 1, 1, 1)), choicesOf(x));
        x.keep(0);
        Check.leave(x, "01");
        CHECK.same("choices behind leave()", choicesOf(Check.leave(Check.ferry(text), "01")), choicesOf(x));
        x.back();
        CHECK.same("choices behind back()", choicesOf(with(text, 1, 1, 1)), choicesOf(x));
        x.minutes(0);
        CHECK.same("choices behind minutes()", plain, choicesOf(x));
        x.again(0);
        CHECK.same("choices behind again()", choicesOf(with(text, 1, 1, 1)), choicesOf(x));
        x.ferry();
        CHECK.same("choices behind ferry()", plain, choicesOf(x));
        x.wipe();
        CHECK.same("choices behind wipe()", plain, choicesOf(x));
        FerriesLevel alone = Check.ferry(EACH_ALONE);
        for (int p = 0; p < 8; p++) {
            due("all() ahead of boat " + p, 8 - p, alone.all());
            due("sets() ahead of boat " + p, 8 - p, alone.sets());
            due("crossings(4) ahead of boat " + p, Math.min(4, 8 - p), alone.crossings(4));
            Check.leave(alone, "-".repeat(p) + "1");
        }
    }

    private static String choicesOf(FerriesLevel x) {
        StringBuilder b = new StringBuilder(ends(x, 5, false)).append(' ').append(ends(x, 5, true));
        for (int p = 0; p < 5; p++) {
            b.append(' ').append(x.worth(p));
        }
        b.append(", ").append(x.best()).append(' ').append(x.sets()).append(' ').append(x.bestMakes());
        for (int r = 1; r <= 4; r++) {
            b.append(' ').append(x.crossings(r)).append(' ').append(x.makes(10 * r));
        }
        return b.append(' ').append(x.all()).append(' ').append(x.rule()).toString();
    }

    // ---- the best one

    private static void mostFares() {
        CHECK.says("THE BEST CHOICE: with most fares together");
        // by 1, the first that are not chosen would say otherwise
        chosen("B21110P1053P1053P2053P2043", "01--");
        chosen("B21110P1053P1043P2053P2053", "--01");
        // two with 5 ahead of three with 4: 20 against 11 and 9, 7 against 7
        chosen("B21120P2023P1113P0913P0733P0723", "---01");
        chosen("B21120P0733P0723P2023P1113P0913", "01---");
    }

    private static void mostPeople() {
        CHECK.says("of like ones with most PEOPLE");
        chosen("B21120P2023P1113P0913P0723P0723", "011--");
        chosen("B21120P0723P0723P2023P1113P0913", "--011");
        // those without a fare go, too
        chosen("B21180P1093P1093P0703P0703P5003", "0101-");
        chosen("B21180P1003P1003", "01");
    }

    private static void notChosenAhead() {
        CHECK.says("of like ones the first: by PERSON 0, then 1 .. (not chosen ahead of END 0, 1, 2)");
        chosen("B21110P1010P1010P1011", "-01");
        chosen("B21110P1011P1011P1010", "-10");
        chosen("B21110P1013P1010P1013", "-01");
        chosen("B21130P2011P2013P2010", "-10");
        // 30 against 20 and 10, or 10 and 10 against 20
        chosen("B21120P1010P3013P2011P1013", "-011");
        chosen("B31110P1012P1012P1010P1011", "-201");
        chosen("B21110" + "P1013".repeat(8), "------01");
        chosen("B31110" + "P1013".repeat(8), "-----012");
    }

    private static void lowerEndAhead() {
        CHECK.says("not chosen ahead of END 0, 1, 2");
        chosen("B21180P1013P1013", "01");
        chosen("B31180P1013P1011P1013", "012");
        chosen("B31180P1013P1013P1010", "120");
        chosen("B31180P1013P1013P1013", "012");
        chosen("B21180P3013P1013P1013P1013", "0111");
        chosen("B21180" + "P1013".repeat(8), "00001111");
        chosen("B31180" + "P1013".repeat(6), "001122");
        chosen("B21180P1013P2013P3013P4013", "0110");
    }

    private static void byPersonZeroFirst() {
        CHECK.says("by PERSON 0, then 1 ..");
        // PERSON 0 says 1 and 3, PERSON 1 says 0 and 2
        chosen("B21110P1010P2011P1011P2010", "-1-0");
        // PERSON 0 is alike in both, PERSON 1 tells
        chosen("B21110P1010P1011P1011", "0-1");
        // 0 at END 0 with 3 against 1 and 2, or at END 1 with 3 against them: END 0 is ahead
        chosen("B21180P4013P3013P2013P1013", "0110");
        // only the last two differ
        chosen("B21180P1010P1011P3010P3010P3011P3011P2010P2011", "01001101");
        chosen("B21110P9910P9910P9910P9910P9910P1010P1010P1011", "------01");
    }

    private static void bestAnswers() {
        CHECK.says("Fares of THE BEST CHOICE; NONE: there is none.");
        due("best() without fares", 0, Check.ferry("B21180P1003P1003").best());
        due("best() of one fare", 1, Check.ferry("B21180P1003P1013").best());
        due("best() of all fares", 72, Check.ferry("B21180" + "P0193".repeat(8)).best());
        due("best() of none", NONE, Check.ferry("B21180P1093P1193").best());
        due("best() of a new object", NONE, new FerriesLevel().best());
        due("best() one pound off", NONE, Check.ferry("B31180P1093P1093P1193").best());
    }

    private static void whoIsChosen() {
        CHECK.says("The END of a PERSON in THE BEST CHOICE; NONE: it is not chosen, or there is none. UNKNOWN.");
        FerriesLevel x = Check.ferry("B31180P1013P1013P1013P9993");
        due("bestAt(-1)", UNKNOWN, x.bestAt(-1));
        due("bestAt(0)", 0, x.bestAt(0));
        due("bestAt(2)", 2, x.bestAt(2));
        due("bestAt(3), not chosen", NONE, x.bestAt(3));
        due("bestAt(4)", UNKNOWN, x.bestAt(4));
        for (int far : FAR) {
            due("bestAt(" + far + ")", UNKNOWN, x.bestAt(far));
            due("worth(" + far + ")", UNKNOWN, x.worth(far));
            due("ruleAt(" + far + ")", UNKNOWN, x.ruleAt(far));
        }
        due("bestAt(0) of none", NONE, Check.ferry("B21180P1013").bestAt(0));
        due("bestAt(0) of nobody", UNKNOWN, new FerriesLevel().bestAt(0));
        due("bestAt(7) of eight", 1, Check.ferry("B21180" + "P1013".repeat(8)).bestAt(7));
        due("bestAt(8) of eight", UNKNOWN, Check.ferry("B21180" + "P1013".repeat(8)).bestAt(8));
        due("bestAt(0), gone", NONE, Check.eightBoats().bestAt(0));
        FerriesLevel none = with("B21180P1013P1013", 0, 1, 0);
        due("bestAt(0) of one there is", 0, none.bestAt(0));
        none.minutes(1);
        due("bestAt(0) of none any more", NONE, none.bestAt(0));
        due("bestAt(1) of none any more", NONE, none.bestAt(1));
    }

    private static void worthEdges() {
        CHECK.says("by how much less the fares of THE BEST CHOICE are without it (0 fares, if there is none)");
        due("worth(0): none without it", 5, Check.ferry("B21180P1023P1033").worth(0));
        due("worth(0): all without it", 72, Check.ferry("B21180P7091" + "P1090".repeat(7)).worth(0));
        due("worth(0): there is none at all", 0, Check.ferry("B21180P1023P1133").worth(0));
        due("worth(0): another for it", 0, Check.ferry("B21110P1023P1023P1023").worth(0));
        due("worth(1): one alone without it", 4, Check.ferry("B21119P0911P0951").worth(1));
        due("worth(2): not chosen", 0, Check.ferry("B21180P1023P1033P9993").worth(2));
        due("worth(0): best without fares", 0, Check.ferry("B21180P1003P1003").worth(0));
        due("worth(0): 9 and 2 with it, 1 and 2 without", 8, Check.ferry("B21110P1093P1013P1023").worth(0));
        CHECK.says("UNKNOWN; STATE: it does not wait (one that is laid waits).");
        FerriesLevel x = Check.lay(Check.leave(Check.ferry("B21180P1013P1013P1023P1023"), "01"), "--0");
        due("worth(-1)", UNKNOWN, x.worth(-1));
        due("worth(0), gone", STATE, x.worth(0));
        due("worth(2), laid", 4, x.worth(2));
        due("worth(3), it waits", 4, x.worth(3));
        due("worth(4)", UNKNOWN, x.worth(4));
        due("worth(0) of nobody", UNKNOWN, new FerriesLevel().worth(0));
        x.back();
        due("worth(0), taken back", 2, x.worth(0));
    }

    // ---- a make-weight

    private static void makesBounds() {
        CHECK.says("A MAKE-WEIGHT of x pounds (1 to 99)");
        FerriesLevel x = Check.ferry("B21180P0190P9981");
        due("makes(0)", OUTSIDE, x.makes(0));
        due("makes(1)", 9, x.makes(1));
        due("makes(98)", 17, x.makes(98));
        due("makes(99)", 8, x.makes(99));
        due("makes(100)", OUTSIDE, x.makes(100));
        CHECK.says("What a MAKE-WEIGHT brings more. OUTSIDE: x.");
        due("makes(-1)", OUTSIDE, x.makes(-1));
        for (int far : FAR) {
            due("makes(" + far + ")", OUTSIDE, x.makes(far));
        }
        for (int pounds = 2; pounds < 98; pounds++) {
            due("makes(" + pounds + ")", 0, x.makes(pounds));
        }
        FerriesLevel turned = Check.ferry("B21110P0191P9980");
        due("makes(1) at END 0", 9, turned.makes(1));
        due("makes(99) at END 1", 8, turned.makes(99));
    }

    /** What all others weigh leaves room for a MAKE-WEIGHT of 5 at one END alone, behind so many that sit there. */
    private static void endTakesOneLess() {
        CHECK.says("sits at any END (the END takes one less then)");
        for (int takes = 1; takes <= 8; takes++) {
            for (int sit = 0; sit <= 6; sit++) {
                String sitting = 10 * sit + 5 < 10 ? "05" : "" + (10 * sit + 5);
                int brings = sit < takes ? 9 : 0;
                FerriesLevel zero = Check.ferry("B211" + takes + "0P" + sitting + "91" + "P1000".repeat(sit));
                due("makes(5) at END 0 with " + sit + " that takes " + takes, brings, zero.makes(5));
                FerriesLevel one = Check.ferry("B211" + takes + "0P" + sitting + "90" + "P1001".repeat(sit));
                due("makes(5) at END 1 with " + sit + " that takes " + takes, brings, one.makes(5));
                for (int end = 0; end < 3; end++) {
                    String others = "P" + sitting + "9" + (end + 1) % 3 + "P" + sitting + "0" + (end + 2) % 3;
                    FerriesLevel three = Check.ferry("B311" + takes + "0" + others + ("P100" + end).repeat(sit));
                    due("makes(5) at END " + end + " of three with " + sit + " that takes " + takes, brings,
                            three.makes(5));
                }
            }
        }
        // the other END takes as many as ever
        due("makes(20) against two where it takes two", 9, Check.ferry("B21120P1090P1000").makes(20));
        due("makes(30) against three where it takes two", 0, Check.ferry("B21120P1090P1000P1000").makes(30));
    }

    private static void whatAMakeWeightIs() {
        CHECK.says("gains nothing, and pays nothing");
        due("makes(10) against one that gains", 0, with("B21180P1093", 1, 1).makes(10));
        due("makes(11) against one that gains", 0, with("B21180P1093", 1, 1).makes(11));
        due("makes(10) against one that gains nothing", 9, with("B21180P1093", 9, 0).makes(10));
        due("makes(10) of gains and no MINUTES", 9, with("B21180P1093", 0, 3).makes(10));
        // 10 and 10 against 20 that gains as much as both do
        due("makes(10) with one that gains", 4, with("B21180P1010P2031", 2, 1, 1).makes(10));
        due("makes(1): it pays nothing", 1, Check.ferry("B21180P1013P1103").makes(1));
        due("makes(9): alone it is no CHOICE", 0, Check.ferry("B21189").makes(9));
        due("makes(1) of nobody", 0, new FerriesLevel().makes(1));
        due("makes(99) of nobody", 0, new FerriesLevel().makes(99));
        // twice what END 0 weighs and three times what END 1 does
        due("makes(18) with arms", 9, Check.ferry("B22380P1291").makes(18));
        due("makes(8) with arms", 9, Check.ferry("B22380P1290").makes(8));
        due("makes(19) with arms", 0, Check.ferry("B22380P1291").makes(19));
        due("makes(17) with arms", 0, Check.ferry("B22380P1291").makes(17));
    }

    private static void byHowMuchMore() {
        CHECK.says("by how much more the fares of THE BEST CHOICE are, if it may sit there (or not)");
        FerriesLevel x = Check.ferry("B21180P1033P1033P1573");
        due("makes(5): 10 against 15, or 10 and 10 against 15 and 5", 7, x.makes(5));
        due("makes(15): 10 and 15 against 10 and it", 7, x.makes(15));
        due("makes(99): it may stay", 0, x.makes(99));
        due("best() is as it was", 6, x.best());
        due("makes(7): like fares are not more", 0, Check.ferry("B21110P1033P1033P0763").makes(7));
        due("makes(7): 1 more", 1, Check.ferry("B21110P1033P1033P0773").makes(7));
        due("makes(7): 1 less", 0, Check.ferry("B21110P1033P1033P0753").makes(7));
    }

    private static void bestMakesEdges() {
        CHECK.says("the best one: by which that is most; of like ones the least");
        due("bestMakes() of 1", 1, Check.ferry("B21110P0193").bestMakes());
        due("bestMakes() of 99", 99, Check.ferry("B21110P9993").bestMakes());
        due("bestMakes() of like ones", 10, Check.ferry("B21110P2093P1093").bestMakes());
        due("bestMakes() of most", 20, Check.ferry("B21110P2093P1083").bestMakes());
        due("bestMakes() of most, and less", 10, Check.ferry("B21110P2083P1093").bestMakes());
        due("bestMakes() that brings 1", 10, Check.ferry("B21110P1013").bestMakes());
        CHECK.says("The best one; NONE: none brings more.");
        due("bestMakes() that would be 100", NONE, Check.ferry("B21181P9990").bestMakes());
        due("bestMakes() of 99 with the LIST", 99, Check.ferry("B21181P9890").bestMakes());
        due("bestMakes() without fares", NONE, Check.ferry("B21180P1003").bestMakes());
        due("bestMakes() where all go", NONE, Check.ferry("B21180P1093P1093").bestMakes());
        due("bestMakes() of nobody", NONE, new FerriesLevel().bestMakes());
        due("bestMakes() where all are gone", NONE, Check.eightBoats().bestMakes());
        due("bestMakes() of one that gains", NONE, with("B21180P1093", 1, 1).bestMakes());
    }

    // ---- sets, crossings, all

    private static void setsEdges() {
        CHECK.says("SETS: how many sets of those WAITING can leave LEVEL.");
        due("sets() of nobody", 0, new FerriesLevel().sets());
        due("sets() of one that can not", 0, Check.ferry("B21180P1013").sets());
        due("sets(): two ways to sit are one set", 1, Check.ferry("B21180P1013P1013").sets());
        due("sets(): six ways to sit are one set", 1, Check.ferry("B31180P1013P1013P1013").sets());
        due("sets() of each alone", 8, Check.ferry(EACH_ALONE).sets());
        due("sets() of eight", 28 + 70 + 28 + 1, Check.ferry("B21180" + "P9913".repeat(8)).sets());
        due("sets() where all are gone", 0, Check.eightBoats().sets());
        due("sets() of three that wait", 3, Check.leave(Check.ferry("B21180" + "P1013".repeat(5)), "01").sets());
    }

    private static void crossingsEdges() {
        CHECK.says("IN r CROSSINGS (1 to 4): most fares by as many CHOICES one behind the other, or fewer");
        FerriesLevel x = Check.ferry(EACH_ALONE);
        due("crossings(0)", OUTSIDE, x.crossings(0));
        for (int r = 1; r <= 4; r++) {
            due("crossings(" + r + ") of eight", r, x.crossings(r));
        }
        CHECK.says("IN so many CROSSINGS. OUTSIDE: r.");
        due("crossings(5)", OUTSIDE, x.crossings(5));
        due("crossings(-1)", OUTSIDE, x.crossings(-1));
        for (int far : FAR) {
            due("crossings(" + far + ")", OUTSIDE, x.crossings(far));
        }
        for (int r = 1; r <= 4; r++) {
            due("crossings(" + r + "), or fewer", 72, Check.ferry("B21180" + "P1093".repeat(8)).crossings(r));
            due("crossings(" + r + ") of none", 0, Check.ferry("B21180P1093P1193").crossings(r));
            due("crossings(" + r + ") of nobody", 0, new FerriesLevel().crossings(r));
            due("crossings(" + r + ") of all gone", 0, Check.eightBoats().crossings(r));
        }
        due("crossings(1) of one alone", 5, Check.ferry("B21119P0951P0911").crossings(1));
        CHECK.says("each PERSON in one");
        due("crossings(4) of three", 17, Check.ferry("B21110P1093P1083P1073").crossings(4));
        due("crossings(4) of four", 30, Check.ferry("B21110P1093P1083P1073P1063").crossings(4));
    }

    private static void allEdges() {
        CHECK.says("ALL: the fewest CHOICES by which all that wait are gone; NONE.");
        due("all() of one", 1, Check.ferry("B21189P0911").all());
        due("all() of eight alone", 8, Check.ferry(EACH_ALONE).all());
        due("all() of eight at once", 1, Check.ferry("B21140" + "P1013".repeat(8)).all());
        due("all() of eight, three at an END", 2, Check.ferry("B21130" + "P1013".repeat(8)).all());
        due("all() of eight by twos", 4, Check.ferry("B21110" + "P1013".repeat(8)).all());
        due("all(): one stays", NONE, Check.ferry("B21110" + "P1013".repeat(7)).all());
        due("all() of none", NONE, Check.ferry("B21180P1013").all());
        // by THE BEST CHOICE, 0 and 4 against 2, PERSON 1 would stay
        FerriesLevel best = Check.ferry("B21185P1090P2050P2591P1551P1000P1501");
        due("best()", 18, best.best());
        due("all() without the best CHOICE", 3, best.all());
        due("all() behind the best CHOICE", NONE, Check.leave(best, "0-1-0").all());
        CHECK.says("ALL; NONE (0: nobody waits).");
        due("all() of a new object", 0, new FerriesLevel().all());
        due("all() where all are gone", 0, Check.eightBoats().all());
        FerriesLevel x = Check.lay(Check.ferry("B21180P1013P1013"), "01");
        due("all(): laid ones wait", 1, x.all());
        x.leave();
        due("all() behind leave()", 0, x.all());
        x.back();
        due("all() behind back()", 1, x.all());
    }

    // ---- a boatman's rule

    private static void ruleByNumber() {
        CHECK.says("PEOPLE that wait, by number, each to the END that weighs least (a and b times it, with two ENDS;"
                + " with three as it weighs)");
        ruled("B21180P1013P1113P1013P1013", "0101");
        ruled("B21180P1113P1013P1013P1013", "0110");
        // one pound tells: 9 and the LIST of 1, against 11, or 9
        ruled("B21181P1113P0913P0113", "100");
        ruled("B21181P0913P0913P0113", "101");
        // 3 times 1 against once 2
        ruled("B23180P0113P0213P0113", "011");
        ruled("B21380P0213P0113P0113", "010");
        ruled("B33180P0113P0213P0113P0113", "0120");
        ruled("B31380P0113P0213P0213P0113", "0120");
        // as it weighs when it leaves: 10 against 9, whatever they gain
        CHECK.same("the rule of gains", "011", ends(with("B21180P1013P0913P0113", 9, -3, 3, 0), 3, true));
        CHECK.same("the rule of losses", "010", ends(with("B21180P0913P1013P0113", 9, 3, -3, 0), 3, true));
        CHECK.same("the rule of gains and losses", "011", ends(with("B21180P1013P0913P0113", 9, 3, -3, 0), 3, true));
    }

    private static void ruleOfLikeEnds() {
        CHECK.says("of like ones the least");
        ruled("B21180P1013", "0");
        ruled("B31180P1013P1013P1013P1013", "0120");
        ruled("B21189P0913P1013", "10");
        // twice 3 and three times 2
        ruled("B22383P0213P1013", "10");
        ruled("B31189P1013P1013P0113", "120");
        CHECK.says("of those that it will sit at and that take one more");
        ruled("B21180P1011P1011P1010P1010", "1100");
        ruled("B31180P1012P1013P1012P1013P1011", "20211");
        ruled("B21110P1010P0113P0113", "01-");
    }

    private static void ruleStays() {
        CHECK.says("none: it stays");
        ruled("B21110P1013P1013P1013P1013", "01--");
        ruled("B21110P1010P1010P1013", "0-1");
        ruled("B31110P1013P1013P1013P1013", "012-");
        ruled("B21180" + "P1010".repeat(8), "00000000");
        ruled("B21170" + "P1010".repeat(8), "0000000-");
        CHECK.says("The END of a PERSON by that RULE; NONE: it stays. UNKNOWN.");
        FerriesLevel x = Check.ferry("B21110P1010P1010P1011");
        due("ruleAt(-1)", UNKNOWN, x.ruleAt(-1));
        due("ruleAt(0)", 0, x.ruleAt(0));
        due("ruleAt(1)", NONE, x.ruleAt(1));
        due("ruleAt(2)", 1, x.ruleAt(2));
        due("ruleAt(3)", UNKNOWN, x.ruleAt(3));
        due("ruleAt(0) of nobody", UNKNOWN, new FerriesLevel().ruleAt(0));
        due("ruleAt(7) of eight", 1, Check.ferry("B21180" + "P1013".repeat(8)).ruleAt(7));
        due("ruleAt(8) of eight", UNKNOWN, Check.ferry("B21180" + "P1013".repeat(8)).ruleAt(8));
    }

    private static void ruleLevel() {
        CHECK.says("what fares that brings, if it is LEVEL then; else 0");
        due("rule() of nobody", 0, new FerriesLevel().rule());
        due("rule() of nobody with the LIST", 0, Check.ferry("B21189").rule());
        due("rule()", 17, Check.ferry("B21180P1093P1083").rule());
        due("rule() one pound off", 0, Check.ferry("B21180P1093P1183").rule());
        due("rule() of all", 72, Check.ferry("B21180" + "P1093".repeat(8)).rule());
        due("rule() without fares", 0, Check.ferry("B21180P1003P1003").rule());
        due("rule(): who stays pays nothing", 17, Check.ferry("B21110P1093P1083P1073").rule());
        due("rule() not level when it is there", 0, with("B21180P1093P1083", 1, 1, 0).rule());
        due("rule() level when it is there alone", 0, with("B21180P1093P1183", 1, 1, 0).rule());
        due("rule() level at both", 17, with("B21180P1093P1083", 9, -3, -3).rule());
        // it could leave level, but the rule does not find it: 10, 20 against 30
        due("rule() that is not level where a choice is", 0, Check.ferry("B21180P1013P3013P2013P4013").rule());
        due("best() of them", 4, Check.ferry("B21180P1013P3013P2013P4013").best());
    }

    private static void ruleOfThoseWaiting() {
        CHECK.says("A BOATMAN'S RULE: PEOPLE that wait");
        FerriesLevel x = Check.leave(Check.ferry("B21180P1013P1013P2023P2043"), "01");
        due("rule() of those that wait", 6, x.rule());
        CHECK.same("their ENDS", "--01", ends(x, 4, true));
        x.back();
        due("rule() behind back(): laid ones wait", 8, x.rule());
        CHECK.same("their ENDS", "0101", ends(x, 4, true));
        due("rule() where all are gone", 0, Check.eightBoats().rule());
        due("ruleAt(0) where all are gone", NONE, Check.eightBoats().ruleAt(0));
    }
}
