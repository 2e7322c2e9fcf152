import java.util.function.ToIntFunction;

/**
 * Terms: "REFUSALS, of several the first that a call names" and "What is refused changes
 * nothing". Each refused call is made on an object of its own, which then must answer all
 * that can be asked, of its slots and its text, too, as one does that was never refused.
 */
public final class RefusalsTest {
    private static final int UNKNOWN = FerriesLevel.UNKNOWN;
    private static final int OUTSIDE = FerriesLevel.OUTSIDE;
    private static final int STATE = FerriesLevel.STATE;
    private static final int FULL = FerriesLevel.FULL;
    private static final int MIN = Integer.MIN_VALUE;
    private static final int MAX = Integer.MAX_VALUE;
    private static final Check CHECK = new Check();

    /** In what state an object is made: NEW, in the MIDST of things, FULL of boats and bytes. */
    private enum Made {
        NEW(0, 2, 0), MIDST(8, 3, 2), LAST(8, 2, 8);

        final int people;
        final int ends;
        final int boats;

        Made(int people, int ends, int boats) {
            this.people = people;
            this.ends = ends;
            this.boats = boats;
        }

        FerriesLevel object() {
            return this == NEW ? new FerriesLevel() : this == MIDST ? midst() : last();
        }
    }

    private final Made made;
    private final String untouched;

    private RefusalsTest(Made made) {
        this.made = made;
        untouched = allOf(made.object());
    }

    public static void main(String[] args) {
        CHECK.says("What is refused changes nothing.");
        for (Made made : Made.values()) {
            RefusalsTest test = new RefusalsTest(made);
            test.ofTheFerry();
            test.ofPeople();
            test.ofLaying();
            test.ofEndsAndBoats();
            test.ofChoices();
            test.ofSlots();
        }
        new RefusalsTest(Made.NEW).ofNew();
        new RefusalsTest(Made.MIDST).ofMidst();
        new RefusalsTest(Made.LAST).ofLast();
        CHECK.says("REFUSALS, of several the first that a call names");
        orderOfLay();
        orderOfOthers();
        CHECK.end("RefusalsTest");
    }

    /** 0, 1, 2 and 3, 4, 5 left; 6 is laid at END 1, which takes one; 7 waits; two slots hold other things. */
    private static FerriesLevel midst() {
        FerriesLevel x = Check.ferry("B32312P0840P1053P1062P1873P2013P2003P0521P0533");
        Check.leave(x, "012");
        x.gain(7, -3);
        x.claim(1, 11);
        x.lay(3, 0);
        x.keep(0);
        x.unlay(3);
        Check.leave(x, "---012");
        x.minutes(4);
        x.claim(4, 44);
        x.keep(1);
        x.lay(6, 1);
        x.gain(6, 1);
        x.wipe();
        Check.append(x, "B21135P0991P9900");
        return x;
    }

    /** Eight boats left, and THE TEXT holds all it can. */
    private static FerriesLevel last() {
        FerriesLevel x = Check.eightBoats();
        x.keep(0);
        x.keep(1);
        Check.append(x, "PP");
        return x;
    }

    /** Three looks of 121 calls and some sixty beside them: within the 512 of an object. */
    private static String allOf(FerriesLevel x) {
        StringBuilder b = new StringBuilder(Seen.of(x));
        for (int slot = 0; slot < 2; slot++) {
            b.append("; again ").append(x.again(slot)).append(": ").append(Seen.of(x));
        }
        b.append("; ferry ").append(x.ferry());
        for (int what = 0; what < 5; what++) {
            b.append(' ').append(x.boat(what));
        }
        for (int p = 0; p < 8; p++) {
            b.append(' ').append(x.person(p, 0)).append(' ').append(x.person(p, 1)).append(' ').append(x.person(p, 2));
        }
        return b.toString();
    }

    private void refused(String call, int want, ToIntFunction<FerriesLevel> it) {
        FerriesLevel x = made.object();
        CHECK.due(made + ": " + call, want, it.applyAsInt(x));
        CHECK.same(made + ": behind " + call + " all", untouched, allOf(x));
    }

    private int[] strangers() {
        return new int[] {-1, made.people, made.people + 1, MIN, MAX};
    }

    private int[] noEnds() {
        return new int[] {-1, made.ends, made.ends + 1, MIN, MAX};
    }

    // ---- the first outside a bound on each side, and the last numbers there are

    private void ofTheFerry() {
        for (int n : new int[] {0, 9, -1, MIN, MAX}) {
            refused("write(" + n + ", B)", OUTSIDE, x -> x.write(n, 'B'));
        }
        for (int what : new int[] {-1, 6, MIN, MAX}) {
            refused("boat(" + what + ")", OUTSIDE, x -> x.boat(what));
        }
        for (int m : new int[] {-1, 10, MIN, MAX}) {
            refused("minutes(" + m + ")", OUTSIDE, x -> x.minutes(m));
            refused("off(" + m + ")", OUTSIDE, x -> x.off(m));
        }
        for (int what : new int[] {-1, 7, MIN, MAX}) {
            refused("count(" + what + ")", OUTSIDE, x -> x.count(what));
        }
    }

    private void ofPeople() {
        for (int p : strangers()) {
            for (int what : new int[] {0, 5, -1, 6}) {
                refused("person(" + p + ", " + what + ")", UNKNOWN, x -> x.person(p, what));
            }
            for (int g : new int[] {1, -3, 3, -4, 4}) {
                refused("gain(" + p + ", " + g + ")", UNKNOWN, x -> x.gain(p, g));
            }
            for (int w : new int[] {1, 99, 0, 100}) {
                refused("claim(" + p + ", " + w + ")", UNKNOWN, x -> x.claim(p, w));
            }
            refused("unlay(" + p + ")", UNKNOWN, x -> x.unlay(p));
        }
        for (int p = 0; p < made.people; p += 7) {
            int person = p;
            for (int what : new int[] {-1, 6, MIN, MAX}) {
                refused("person(" + p + ", " + what + ")", OUTSIDE, x -> x.person(person, what));
            }
            for (int g : new int[] {-4, 4, MIN, MAX}) {
                refused("gain(" + p + ", " + g + ")", OUTSIDE, x -> x.gain(person, g));
            }
            for (int w : new int[] {0, 100, -1, MIN, MAX}) {
                refused("claim(" + p + ", " + w + ")", OUTSIDE, x -> x.claim(person, w));
            }
        }
    }

    private void ofLaying() {
        for (int p : strangers()) {
            for (int end = -1; end <= made.ends; end++) {
                int at = end;
                refused("lay(" + p + ", " + end + ")", UNKNOWN, x -> x.lay(p, at));
            }
        }
        for (int end : noEnds()) {
            for (int p = 0; p < made.people; p++) {
                int person = p;
                refused("lay(" + p + ", " + end + ")", UNKNOWN, x -> x.lay(person, end));
            }
        }
    }

    private void ofEndsAndBoats() {
        for (int end : noEnds()) {
            for (int m : new int[] {0, 9, -1, 10}) {
                refused("weighs(" + end + ", " + m + ")", UNKNOWN, x -> x.weighs(end, m));
            }
            for (int boat = -1; boat <= made.boats; boat++) {
                int number = boat;
                refused("left(" + boat + ", " + end + ")", UNKNOWN, x -> x.left(number, end));
            }
        }
        for (int end = 0; end < made.ends; end++) {
            int at = end;
            for (int m : new int[] {-1, 10, MIN, MAX}) {
                refused("weighs(" + end + ", " + m + ")", OUTSIDE, x -> x.weighs(at, m));
            }
            for (int boat : new int[] {-1, made.boats, made.boats + 1, MIN, MAX}) {
                refused("left(" + boat + ", " + end + ")", UNKNOWN, x -> x.left(boat, at));
            }
        }
    }

    private void ofChoices() {
        for (int p : strangers()) {
            refused("bestAt(" + p + ")", UNKNOWN, x -> x.bestAt(p));
            refused("worth(" + p + ")", UNKNOWN, x -> x.worth(p));
            refused("ruleAt(" + p + ")", UNKNOWN, x -> x.ruleAt(p));
            refused("mayWeigh(" + p + ")", UNKNOWN, x -> x.mayWeigh(p));
        }
        for (int pounds : new int[] {0, 100, -1, MIN, MAX}) {
            refused("makes(" + pounds + ")", OUTSIDE, x -> x.makes(pounds));
        }
        for (int r : new int[] {0, 5, -1, MIN, MAX}) {
            refused("crossings(" + r + ")", OUTSIDE, x -> x.crossings(r));
        }
    }

    private void ofSlots() {
        for (int slot : new int[] {-1, 2, MIN, MAX}) {
            refused("keep(" + slot + ")", UNKNOWN, x -> x.keep(slot));
            refused("again(" + slot + ")", UNKNOWN, x -> x.again(slot));
        }
    }

    // ---- what the state refuses

    private void ofNew() {
        refused("ferry()", STATE, FerriesLevel::ferry);
        refused("leave()", STATE, FerriesLevel::leave);
        refused("back()", STATE, FerriesLevel::back);
        refused("again(0)", STATE, x -> x.again(0));
        refused("again(1)", STATE, x -> x.again(1));
    }

    private void ofMidst() {
        for (int p = 0; p < 6; p++) {
            int gone = p;
            for (int end = 0; end < 3; end++) {
                int at = end;
                refused("lay(" + p + ", " + end + "), gone", STATE, x -> x.lay(gone, at));
            }
            refused("unlay(" + p + "), gone", STATE, x -> x.unlay(gone));
            refused("worth(" + p + "), gone", STATE, x -> x.worth(gone));
        }
        for (int end = 0; end < 3; end++) {
            int at = end;
            refused("lay(6, " + end + "), laid", STATE, x -> x.lay(6, at));
        }
        refused("lay(7, 1), where one sits", FULL, x -> x.lay(7, 1));
        refused("unlay(7), not laid", STATE, x -> x.unlay(7));
        refused("leave(), not level", STATE, FerriesLevel::leave);
    }

    private void ofLast() {
        for (int n = 1; n <= 8; n++) {
            int bytes = n;
            refused("write(" + n + ", ..) at 48", FULL, x -> x.write(bytes, -1L));
        }
        refused("ferry() of 48 bytes", STATE, FerriesLevel::ferry);
        refused("leave() behind eight boats", STATE, FerriesLevel::leave);
        for (int p = 0; p < 8; p++) {
            int gone = p;
            refused("lay(" + p + ", 1), gone", STATE, x -> x.lay(gone, 1));
            refused("unlay(" + p + "), gone", STATE, x -> x.unlay(gone));
            refused("worth(" + p + "), gone", STATE, x -> x.worth(gone));
        }
    }

    // ---- of several the first

    /** 0 is laid at END 0, 1 waits and sits at any, 2 at END 0 alone, 3 at END 1 alone; 4 and 5 are gone. */
    private static FerriesLevel oneAtEachEnd() {
        FerriesLevel x = Check.ferry("B21110P1013P1013P1010P1011P1013P1013");
        return Check.lay(Check.leave(x, "----01"), "0");
    }

    private static void orderOfLay() {
        CHECK.due("lay(6, 2): UNKNOWN person and end", UNKNOWN, oneAtEachEnd().lay(6, 2));
        CHECK.due("lay(6, 0): UNKNOWN ahead of FULL", UNKNOWN, oneAtEachEnd().lay(6, 0));
        CHECK.due("lay(4, 2): UNKNOWN ahead of STATE, gone", UNKNOWN, oneAtEachEnd().lay(4, 2));
        CHECK.due("lay(0, 2): UNKNOWN ahead of STATE, laid", UNKNOWN, oneAtEachEnd().lay(0, 2));
        CHECK.due("lay(2, 2): UNKNOWN ahead of STATE, will not", UNKNOWN, oneAtEachEnd().lay(2, 2));
        CHECK.due("lay(4, 0): STATE, gone, ahead of FULL", STATE, oneAtEachEnd().lay(4, 0));
        CHECK.due("lay(0, 0): STATE, laid, ahead of FULL", STATE, oneAtEachEnd().lay(0, 0));
        CHECK.due("lay(3, 0): STATE, will not, ahead of FULL", STATE, oneAtEachEnd().lay(3, 0));
        CHECK.due("lay(1, 0): FULL alone", FULL, oneAtEachEnd().lay(1, 0));
        CHECK.due("lay(2, 0): FULL alone", FULL, oneAtEachEnd().lay(2, 0));
        CHECK.due("lay(1, 1): not refused", 1, oneAtEachEnd().lay(1, 1));
    }

    private static void orderOfOthers() {
        CHECK.due("write(9, 0): OUTSIDE ahead of FULL", OUTSIDE, last().write(9, 0));
        CHECK.due("write(0, 0): OUTSIDE ahead of FULL", OUTSIDE, last().write(0, 0));
        CHECK.due("write(1, 0): FULL alone", FULL, last().write(1, 0));
        CHECK.due("person(8, 6): UNKNOWN ahead of OUTSIDE", UNKNOWN, midst().person(8, 6));
        CHECK.due("gain(8, 4): UNKNOWN ahead of OUTSIDE", UNKNOWN, midst().gain(8, 4));
        CHECK.due("weighs(3, 10): UNKNOWN ahead of OUTSIDE", UNKNOWN, midst().weighs(3, 10));
        CHECK.due("left(2, 3): UNKNOWN boat and end", UNKNOWN, midst().left(2, 3));
        CHECK.due("claim(8, 100): UNKNOWN ahead of OUTSIDE", UNKNOWN, midst().claim(8, 100));
        CHECK.due("leave(): STATE ahead of FULL", STATE, last().leave());
        CHECK.due("again(2): UNKNOWN ahead of STATE", UNKNOWN, new FerriesLevel().again(2));
    }
}
