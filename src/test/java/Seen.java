/** All that can be asked without a change, as one text, so that two objects can be compared. */
final class Seen {
    /** How many calls of() makes: an object is good for 512. */
    static final int CALLS = 121;

    private Seen() {
    }

    static String of(FerriesLevel x) {
        StringBuilder b = new StringBuilder("boat");
        for (int what = 0; what < 6; what++) {
            b.append(' ').append(x.boat(what));
        }
        b.append(", count");
        for (int what = 0; what < 7; what++) {
            b.append(' ').append(x.count(what));
        }
        b.append(", fault ").append(x.fault());
        for (int p = 0; p < 8; p++) {
            b.append(", person ").append(p);
            for (int what = 0; what < 6; what++) {
                b.append(' ').append(x.person(p, what));
            }
            b.append(" best ").append(x.bestAt(p)).append(" rule ").append(x.ruleAt(p));
            b.append(" may weigh ").append(x.mayWeigh(p));
            b.append(", left ").append(p);
            for (int end = 0; end < 3; end++) {
                b.append(' ').append(x.left(p, end));
            }
        }
        return b.append(", weighs ").append(x.weighs(0, 9)).append(", off ").append(x.off(0)).append(' ')
                .append(x.off(9)).append(", best ").append(x.best()).append(", makes ").append(x.bestMakes())
                .append(", sets ").append(x.sets()).append(", crossings ").append(x.crossings(2))
                .append(", all ").append(x.all()).append(", rule ").append(x.rule())
                .append(", fits ").append(x.fits()).append(", liars ").append(x.liars()).toString();
    }
}
