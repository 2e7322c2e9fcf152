/** Promises 27 to 33, "==== 3 CLAIMS" and SLOTS: each sentence that names a boundary case. */
public final class ClaimSlotEdgesTest {
    private static final int UNKNOWN = FerriesLevel.UNKNOWN;
    private static final int OUTSIDE = FerriesLevel.OUTSIDE;
    private static final int STATE = FerriesLevel.STATE;
    private static final int[] FAR = {Integer.MIN_VALUE, -100, 256, 1000, Integer.MAX_VALUE};
    private static final Check CHECK = new Check();

    public static void main(String[] args) {
        claimBounds();
        claimAtFirst();
        claimsAreNoWeights();
        fitsAllBoats();
        fitsAsItIsNow();
        liarsAnswers();
        liarsBounds();
        liarsAlone();
        mayWeighAnswers();
        mayWeighBounds();
        whichSlots();
        noneWereKept();
        whatSlotsKeep();
        slotsApart();
        slotsAreCopies();
        whatIsNotKept();
        howManyBoats();
        countBounds();
        countOfNothingAndAll();
        CHECK.end("ClaimSlotEdgesTest");
    }

    private static void due(String call, long want, long got) {
        CHECK.due(call, want, got);
    }

    private static FerriesLevel claims(FerriesLevel x, int... claims) {
        for (int p = 0; p < claims.length; p++) {
            x.claim(p, claims[p]);
        }
        return x;
    }

    /** One boat that left: PERSON 0 at END 0, all others at END 1. */
    private static FerriesLevel oneBoat(String text) {
        int people = (text.length() - 6) / 5;
        return Check.leave(Check.ferry(text), "0" + "1".repeat(people - 1));
    }

    // ---- claim

    private static void claimBounds() {
        CHECK.says("CLAIMS: what each PERSON says that it weighs (1 to 99");
        FerriesLevel x = Check.ferry("B21180P5013P6013");
        due("claim(0, 1)", 50, x.claim(0, 1));
        due("claim(0, 0)", OUTSIDE, x.claim(0, 0));
        due("person(0, 4) behind it", 1, x.person(0, 4));
        due("claim(0, 99)", 1, x.claim(0, 99));
        due("claim(0, 100)", OUTSIDE, x.claim(0, 100));
        due("person(0, 4) behind it", 99, x.person(0, 4));
        due("claim(0, -1)", OUTSIDE, x.claim(0, -1));
        for (int far : FAR) {
            due("claim(0, " + far + ")", OUTSIDE, x.claim(0, far));
            due("claim(" + far + ", 1)", UNKNOWN, x.claim(far, 1));
        }
        CHECK.says("A CLAIM: what it was. UNKNOWN; OUTSIDE: 1 to 99.");
        due("claim(-1, 1)", UNKNOWN, x.claim(-1, 1));
        due("claim(1, 2)", 60, x.claim(1, 2));
        due("claim(2, 1)", UNKNOWN, x.claim(2, 1));
        due("claim(2, 0)", UNKNOWN, x.claim(2, 0));
        due("claim(0, 1) of nobody", UNKNOWN, new FerriesLevel().claim(0, 1));
        FerriesLevel gone = oneBoat("B21180P1013P1013");
        due("claim(0, 7) of one that is gone", 10, gone.claim(0, 7));
        due("claim(0, 8)", 7, gone.claim(0, 8));
    }

    private static void claimAtFirst() {
        CHECK.says("its weight at first, and when THE FERRY is made anew");
        FerriesLevel x = Check.ferry("B21180P0113P9913P1013P2013P3013P4013P5013P6013");
        int[] weights = {1, 99, 10, 20, 30, 40, 50, 60};
        for (int p = 0; p < 8; p++) {
            due("claim(" + p + ", ..)", weights[p], x.claim(p, 70 + p));
        }
        for (int p = 0; p < 8; p++) {
            due("person(" + p + ", 4)", 70 + p, x.person(p, 4));
        }
        x.ferry();
        for (int p = 0; p < 8; p++) {
            due("person(" + p + ", 4) made anew", weights[p], x.person(p, 4));
        }
    }

    private static void claimsAreNoWeights() {
        CHECK.says("CLAIMS: what each PERSON says that it weighs");
        FerriesLevel x = claims(Check.lay(Check.ferry("B21180P1013P1013"), "01"), 99, 1);
        due("person(0, 0)", 10, x.person(0, 0));
        due("weighs(0, 0)", 10, x.weighs(0, 0));
        due("off(0)", 10000, x.off(0));
        due("best()", 2, x.best());
        due("rule()", 2, x.rule());
        due("leave()", 2, x.leave());
        due("fits()", 0, x.fits());
    }

    // ---- fits

    private static void fitsAllBoats() {
        CHECK.says("They FIT, if by them (..) all BOATS that left were LEVEL.");
        CHECK.says("Whether CLAIMS FIT: 1, 0.");
        due("fits() of a new object", 1, new FerriesLevel().fits());
        due("fits() of no boat, whatever is claimed", 1, claims(Check.ferry("B21180P1013P1013"), 1, 99).fits());
        due("fits() of one that is laid alone", 1,
                claims(Check.lay(Check.ferry("B21180P1013P1013"), "01"), 1, 99).fits());
        for (int boat = 0; boat < 8; boat++) {
            FerriesLevel x = Check.eightBoats();
            due("fits() of eight", 1, x.fits());
            x.claim(boat, 10);
            due("fits(): boat " + boat + " was not level", 0, x.fits());
            x.claim(boat, 8);
            due("fits(): boat " + boat + " was not level", 0, x.fits());
            x.claim(boat, 9);
            due("fits() as it was", 1, x.fits());
        }
        FerriesLevel back = claims(oneBoat("B21180P1013P1013"), 11);
        due("fits()", 0, back.fits());
        back.back();
        due("fits() where none left", 1, back.fits());
        back.leave();
        due("fits() of that boat again", 0, back.fits());
    }

    private static void fitsAsItIsNow() {
        CHECK.says("if by them (and GAINS, MINUTES as they are now, the LIST)");
        FerriesLevel x = oneBoat("B21185P1013P1513");
        due("fits() with the LIST", 1, x.fits());
        due("fits() as if without it", 0, claims(oneBoat("B21185P1013P1513"), 15).fits());
        x.gain(0, 1);
        due("fits() of a gain and no MINUTES", 1, x.fits());
        x.minutes(1);
        due("fits() of a gain and one minute", 0, x.fits());
        x.gain(1, 1);
        due("fits() of both gains", 1, x.fits());
        x.minutes(9);
        due("fits() of nine minutes", 1, x.fits());
        // by claims of 4 and 4, which lose 3 and 2 a minute, both weigh 0 behind two
        FerriesLevel zero = claims(oneBoat("B21180P1013P1013"), 4, 4);
        zero.gain(0, -3);
        zero.gain(1, -2);
        zero.minutes(2);
        due("fits(): it weighs 0 at least", 1, zero.fits());
        claims(zero, 5, 5);
        due("fits() of 0 and 1", 0, zero.fits());
        FerriesLevel arms = claims(oneBoat("B22180P1013P2013"), 20, 40);
        due("fits() with arms", 1, arms.fits());
        due("fits() one off", 0, claims(arms, 20, 39).fits());
    }

    // ---- liars

    private static void liarsAnswers() {
        CHECK.says("LIARS (0: they FIT, or no one alone).");
        due("liars() of a new object", 0, new FerriesLevel().liars());
        due("liars() of no boat", 0, claims(Check.ferry("B21180P1013P1013"), 1, 99).liars());
        FerriesLevel x = oneBoat("B21180P1013P1013");
        due("liars(): they fit", 0, x.liars());
        due("liars() of both", 3, claims(x, 11).liars());
        due("liars(): they fit by other claims", 0, claims(x, 11, 11).liars());
        FerriesLevel last = Check.eightBoats();
        last.claim(7, 10);
        due("liars() of the last PERSON", 128, last.liars());
        last.claim(0, 10);
        due("liars() of two boats: no one alone", 0, last.liars());
        last.claim(7, 9);
        due("liars() of the first PERSON", 1, last.liars());
        FerriesLevel eight = claims(Check.leave(Check.ferry("B21180" + "P1013".repeat(8)), "00001111"), 11);
        due("liars() of all eight", 255, eight.liars());
    }

    private static void liarsBounds() {
        CHECK.says("each PERSON by another claim of whom alone they would; as bits");
        // END 1 says 98 and 1, or 99 and 1: PERSON 0 can say 99, but not 100; PERSON 1 can say 49
        due("liars(): 99 can be claimed", 3, claims(oneBoat("B21180P2013P1013P1013"), 50, 98, 1).liars());
        due("liars(): 100 can not", 2, claims(oneBoat("B21180P2013P1013P1013"), 50, 99, 1).liars());
        // against 11 PERSON 1 can say 1 beside 10, against 10 it could say 0 alone
        due("liars(): 1 can be claimed", 7, claims(oneBoat("B21180P2013P1013P1013"), 11, 10, 10).liars());
        due("liars(): 0 can not", 1, claims(oneBoat("B21180P2013P1013P1013"), 10, 10, 10).liars());
        // once END 0 against twice END 1
        due("liars(): 10 and a half can not", 1, claims(oneBoat("B21280P2013P1013"), 21, 10).liars());
        due("liars(): 11 can", 3, claims(oneBoat("B21280P2013P1013"), 22, 10).liars());
    }

    private static void liarsAlone() {
        CHECK.says("LIARS: if they do not FIT");
        FerriesLevel x = Check.leave(Check.ferry("B31180P1013P1013P1013P2013"), "012");
        due("liars() of one END", 4, claims(x, 10, 10, 11).liars());
        due("liars() of another END", 1, claims(x, 11, 10, 10).liars());
        due("liars() of three that differ", 0, claims(x, 11, 10, 12).liars());
        due("liars(): who waits is none", 0, claims(x, 10, 10, 10, 99).liars());
        due("liars(): who waits mends nothing", 2, claims(x, 10, 11, 10, 99).liars());
        due("claims are as they were", 11, x.person(1, 4));
        due("claims are as they were", 10, x.person(0, 4));
        x.minutes(1);
        x.gain(1, 1);
        due("liars(): not level when it is there, whatever is claimed", 0, x.liars());
    }

    // ---- mayWeigh

    private static void mayWeighAnswers() {
        CHECK.says("MAY WEIGH: how many claims of a PERSON there are (1 to 99), by which all FIT"
                + " (the others as they are).");
        FerriesLevel x = Check.leave(Check.ferry("B21180P1013P1013P2013P2013P3013"), "01", "--01");
        due("mayWeigh(0)", 1, x.mayWeigh(0));
        due("mayWeigh(4): it waits", 99, x.mayWeigh(4));
        due("mayWeigh(-1)", UNKNOWN, x.mayWeigh(-1));
        due("mayWeigh(5)", UNKNOWN, x.mayWeigh(5));
        x.claim(0, 12);
        due("mayWeigh(0): by 10", 1, x.mayWeigh(0));
        due("mayWeigh(1): by 12", 1, x.mayWeigh(1));
        due("mayWeigh(2): the other boat does not fit", 0, x.mayWeigh(2));
        due("mayWeigh(4): they do not fit", 0, x.mayWeigh(4));
        due("claims are as they were", 12, x.person(0, 4));
        due("claims are as they were", 30, x.person(4, 4));
        for (int far : FAR) {
            due("mayWeigh(" + far + ")", UNKNOWN, x.mayWeigh(far));
        }
        due("mayWeigh(0) of no boat", 99, Check.ferry("B21180P1013").mayWeigh(0));
        due("mayWeigh(0) of no boat, with the LIST", 99, Check.ferry("B21189P1013").mayWeigh(0));
        CHECK.says("MAY WEIGH. UNKNOWN.");
        due("mayWeigh(0) of nobody", UNKNOWN, new FerriesLevel().mayWeigh(0));
        due("mayWeigh(7) of eight boats", 1, Check.eightBoats().mayWeigh(7));
        x.back();
        x.back();
        due("mayWeigh(0) of boats taken back", 99, x.mayWeigh(0));
    }

    private static void mayWeighBounds() {
        CHECK.says("how many claims of a PERSON there are (1 to 99)");
        due("mayWeigh(0): by 99", 1, claims(oneBoat("B21180P2013P1013P1013"), 50, 98, 1).mayWeigh(0));
        due("mayWeigh(0): by 100", 0, claims(oneBoat("B21180P2013P1013P1013"), 50, 99, 1).mayWeigh(0));
        due("mayWeigh(1): by 1", 1, claims(oneBoat("B21180P2013P1013P1013"), 11, 50, 10).mayWeigh(1));
        due("mayWeigh(1): by 0", 0, claims(oneBoat("B21180P2013P1013P1013"), 10, 50, 10).mayWeigh(1));
        due("mayWeigh(1): by less", 0, claims(oneBoat("B21180P2013P1013P1013"), 9, 50, 10).mayWeigh(1));
        FerriesLevel gains = oneBoat("B21180P1013P1013");
        gains.gain(0, 1);
        gains.minutes(1);
        due("mayWeigh(0): level at both times by none", 0, gains.mayWeigh(0));
    }

    // ---- keep, again

    private static void whichSlots() {
        CHECK.says("SLOTS 0 to 1 keep ..");
        FerriesLevel x = Check.ferry("B21180P1013P1013");
        due("keep(-1)", UNKNOWN, x.keep(-1));
        due("keep(0)", 0, x.keep(0));
        due("keep(1)", 0, x.keep(1));
        CHECK.says("They are kept: how many BOATS left. UNKNOWN.");
        due("keep(2)", UNKNOWN, x.keep(2));
        due("again(-1)", UNKNOWN, x.again(-1));
        due("again(0)", 0, x.again(0));
        due("again(1)", 0, x.again(1));
        due("again(2)", UNKNOWN, x.again(2));
        for (int far : FAR) {
            due("keep(" + far + ")", UNKNOWN, x.keep(far));
            due("again(" + far + ")", UNKNOWN, x.again(far));
        }
    }

    private static void noneWereKept() {
        CHECK.says("UNKNOWN; STATE: none were kept.");
        FerriesLevel x = new FerriesLevel();
        due("again(0) of a new object", STATE, x.again(0));
        due("again(1) of a new object", STATE, x.again(1));
        due("keep(0) of a new object", 0, x.keep(0));
        due("again(1): 0 was kept alone", STATE, x.again(1));
        due("again(0)", 0, x.again(0));
        FerriesLevel y = new FerriesLevel();
        due("keep(1)", 0, y.keep(1));
        due("again(0): 1 was kept alone", STATE, y.again(0));
        due("again(1)", 0, y.again(1));
        Check.append(y, "B21180P1013");
        y.ferry();
        due("again(1) behind ferry()", STATE, y.again(1));
        y.keep(1);
        y.write(1, 'X');
        due("ferry() with a fault", STATE, y.ferry());
        due("again(1) behind a ferry() that was refused", 0, y.again(1));
    }

    private static FerriesLevel midst() {
        FerriesLevel x = Check.leave(Check.ferry("B31180" + "P1013".repeat(8)), "012", "---210");
        x.lay(6, 2);
        x.gain(0, 3);
        x.gain(7, -3);
        x.minutes(9);
        x.claim(0, 99);
        x.claim(7, 1);
        return x;
    }

    /** All that is kept is changed, one thing by each call. */
    private static void whatSlotsKeep() {
        CHECK.says("keep who is laid, who is gone, BOATS that left, GAINS, MINUTES, CLAIMS");
        String kept = Seen.of(midst());
        for (int slot = 0; slot < 2; slot++) {
            FerriesLevel x = midst();
            due("keep(" + slot + ")", 2, x.keep(slot));
            x.unlay(6);
            due("again(" + slot + ")", 2, x.again(slot));
            due("who is laid", 2, x.person(6, 5));
            x.back();
            x.back();
            due("again(" + slot + ")", 2, x.again(slot));
            due("who is gone", 20, x.person(0, 5));
            due("BOATS that left", 8, x.left(1, 2));
            x.gain(0, 0);
            x.gain(7, 0);
            x.minutes(0);
            x.claim(0, 1);
            x.claim(7, 99);
            due("again(" + slot + ")", 2, x.again(slot));
            CHECK.same("what was kept in " + slot, kept, Seen.of(x));
        }
    }

    private static void slotsApart() {
        CHECK.says("They are as they were kept: how many BOATS left.");
        FerriesLevel x = Check.ferry("B21119" + "P0911".repeat(8));
        x.keep(0);
        Check.leave(x, "1", "-1");
        due("keep(1)", 2, x.keep(1));
        due("again(0)", 0, x.again(0));
        due("count(4)", 0, x.count(4));
        due("again(1)", 2, x.again(1));
        due("count(4)", 2, x.count(4));
        due("keep(0) over what was kept", 2, x.keep(0));
        x.back();
        due("keep(1) over what was kept", 1, x.keep(1));
        due("again(0)", 2, x.again(0));
        due("again(1)", 1, x.again(1));
        due("person(1, 5): laid as it was taken back", 1, x.person(1, 5));
        // the first boat of all is another one than was kept
        FerriesLevel first = Check.leave(Check.ferry("B21180P1013P1013P1013"), "01");
        first.keep(0);
        first.back();
        first.unlay(1);
        first.lay(2, 1);
        first.leave();
        due("left(0, 1)", 4, first.left(0, 1));
        due("again(0)", 1, first.again(0));
        due("left(0, 1) as it was kept", 2, first.left(0, 1));
        due("person(2, 5)", 10, first.person(2, 5));
    }

    private static void slotsAreCopies() {
        CHECK.says("They are kept");
        FerriesLevel x = midst();
        x.keep(0);
        x.again(0);
        x.gain(1, 2);
        x.claim(1, 50);
        x.minutes(1);
        x.unlay(6);
        x.back();
        x.unlay(3);
        x.lay(3, 0);
        due("again(0)", 2, x.again(0));
        CHECK.same("what was kept, whatever was called behind it", Seen.of(midst()), Seen.of(x));
    }

    private static void whatIsNotKept() {
        CHECK.says("SLOTS 0 to 1 keep who is laid, who is gone, BOATS that left, GAINS, MINUTES, CLAIMS.");
        FerriesLevel x = Check.ferry("B21180P1013P1013");
        x.keep(0);
        x.write(1, 'X');
        due("again(0)", 0, x.again(0));
        due("count(0): THE TEXT is not kept", 17, x.count(0));
        x.wipe();
        due("again(0)", 0, x.again(0));
        due("count(0)", 0, x.count(0));
        x.keep(1);
        Check.lay(x, "01");
        due("again(0)", 0, x.again(0));
        due("again(1): SLOTS are not kept in SLOTS", 0, x.again(1));
    }

    private static void howManyBoats() {
        CHECK.says("They are kept: how many BOATS left.");
        FerriesLevel x = Check.ferry("B21119" + "P0911".repeat(8));
        for (int boats = 0; boats <= 8; boats++) {
            due("keep(1)", boats, x.keep(1));
            due("again(1)", boats, x.again(1));
            if (boats < 8) {
                x.lay(boats, 1);
                x.leave();
            }
        }
        due("left(7, 1)", 128, x.left(7, 1));
        x.back();
        due("again(1) of eight", 8, x.again(1));
        due("left(7, 1)", 128, x.left(7, 1));
        due("count(3)", 0, x.count(3));
    }

    // ---- count

    private static void countBounds() {
        CHECK.says("6 fares that they brought. OUTSIDE.");
        FerriesLevel x = new FerriesLevel();
        due("count(-1)", OUTSIDE, x.count(-1));
        due("count(0)", 0, x.count(0));
        due("count(6)", 0, x.count(6));
        due("count(7)", OUTSIDE, x.count(7));
        for (int far : FAR) {
            due("count(" + far + ")", OUTSIDE, x.count(far));
        }
    }

    private static void counts(String name, FerriesLevel x, int... want) {
        for (int what = 0; what < 7; what++) {
            due("count(" + what + ") of " + name, want[what], x.count(what));
        }
    }

    private static void countOfNothingAndAll() {
        CHECK.says("0 bytes of THE TEXT, 1 PEOPLE, 2 that wait (laid ones, too), 3 laid, 4 gone,"
                + " 5 BOATS that left, 6 fares that they brought.");
        counts("a new object", new FerriesLevel(), 0, 0, 0, 0, 0, 0, 0);
        FerriesLevel all = Check.ferry("B21180" + "P1093".repeat(8));
        counts("eight that wait", all, 46, 8, 8, 0, 0, 0, 0);
        Check.append(all, "XX");
        Check.lay(all, "00001111");
        counts("eight that are laid", all, 48, 8, 8, 8, 0, 0, 0);
        all.leave();
        counts("eight that are gone", all, 48, 8, 0, 0, 8, 1, 72);
        all.back();
        counts("eight that are taken back", all, 48, 8, 8, 8, 0, 0, 0);
        counts("eight boats", Check.eightBoats(), 46, 8, 0, 0, 8, 8, 8);
        FerriesLevel x = Check.lay(Check.leave(Check.ferry("B21180P1013P1023P1043P1083"), "01"), "--0");
        counts("two gone, one laid, one waiting", x, 26, 4, 2, 1, 2, 1, 3);
    }
}
