/**
 * Runs of calls that are drawn, the same ones each time: the class must answer as the plain
 * model does.
 */
public final class DrawnRunsTest {
    private static final int RUNS = 1500;
    private static final int CALLS = 150;
    /** An object is good for 512 calls; a new text, or a crew that is laid, takes some fifty at most. */
    private static final int LAST_CALL = 512 - 64;
    private static final String[] NAMES = {
        "write", "wipe", "fault", "ferry", "boat", "person", "gain", "minutes", "lay", "unlay", "weighs",
        "off", "leave", "back", "left", "best", "bestAt", "worth", "makes", "bestMakes", "sets", "crossings",
        "all", "rule", "ruleAt", "claim", "fits", "liars", "mayWeigh", "keep", "again", "count"};
    /** How often a call is drawn, in the order of NAMES; wipe and ferry come with a new text. */
    private static final int[] OFTEN = {
        1, 0, 1, 0, 2, 6, 4, 3, 30, 3, 4,
        4, 10, 3, 4, 5, 6, 6, 4, 1, 4, 6,
        5, 4, 5, 5, 4, 4, 4, 3, 3, 6};
    private static final Check CHECK = new Check();
    private static final int[] GOOD = new int[NAMES.length];

    private final Draw random;
    private final FerriesLevel x = new FerriesLevel();
    private final PlainModel model = new PlainModel();
    private final StringBuilder story = new StringBuilder();
    private int people = 0;
    private int made = 0;

    private DrawnRunsTest(int run) {
        random = new Draw(run);
        story.append("run ").append(run).append(": ");
    }

    public static void main(String[] args) {
        for (int run = 0; run < RUNS && CHECK.wrongAnswers() < 5; run++) {
            new DrawnRunsTest(run).go(run);
        }
        for (int i = 0; i < NAMES.length; i++) {
            CHECK.holds(NAMES[i] + " has answers that are no refusal and not 0", GOOD[i] > 0);
        }
        CHECK.end("DrawnRunsTest");
    }

    private void go(int run) {
        boolean many = run % 25 == 0;
        tellFerry(many);
        for (int call = 0; call < CALLS && made < LAST_CALL && CHECK.wrongAnswers() < 5; call++) {
            if (random.nextInt(60) == 0) {
                tellFerry(many);
            } else {
                call(draw(), many);
            }
        }
    }

    private int draw() {
        int sum = 0;
        for (int often : OFTEN) {
            sum += often;
        }
        int at = random.nextInt(sum);
        int i = 0;
        while (at >= OFTEN[i]) {
            at -= OFTEN[i];
            i++;
        }
        return i;
    }

    private void tellFerry(boolean many) {
        same(1, 0, 0);
        String text = ferryText(many);
        for (int i = 0; i < text.length(); i++) {
            same(0, 1, text.charAt(i));
        }
        same(2, 0, 0);
        int answer = same(3, 0, 0);
        if (answer >= 0) {
            people = answer;
        }
    }

    private String ferryText(boolean many) {
        StringBuilder b = new StringBuilder("B");
        int ends = 2 + random.nextInt(2);
        b.append(ends).append(arm()).append(arm());
        b.append(random.nextInt(3) == 0 ? 1 : 1 + random.nextInt(8));
        b.append(random.nextInt(2) == 0 ? 0 : random.nextInt(10));
        int n = many ? 6 + random.nextInt(3) : random.nextInt(6);
        int unit = 1 + random.nextInt(12);
        for (int p = 0; p < n; p++) {
            int weight = Math.min(99, random.nextInt(4) == 0 ? 1 + random.nextInt(40) : unit * (1 + random.nextInt(4)));
            int wish = random.nextInt(3) != 0 ? 3 : random.nextInt(ends);
            b.append('P').append(weight / 10).append(weight % 10).append(random.nextInt(10)).append(wish);
        }
        if (random.nextInt(12) == 0) {
            b.setCharAt(random.nextInt(b.length()), "BP0123489X".charAt(random.nextInt(10)));
        }
        if (random.nextInt(12) == 0) {
            b.setLength(random.nextInt(b.length() + 1));
        }
        return b.toString();
    }

    private int arm() {
        return random.nextInt(2) == 0 ? 1 : 1 + random.nextInt(3);
    }

    private int someone() {
        return random.nextInt(25) == 0 ? random.nextInt(20) - 5 : random.nextInt(Math.max(1, people));
    }

    private int from(int least, int most) {
        return random.nextInt(25) == 0 ? (random.nextBoolean() ? least - 1 : most + 1)
                : least + random.nextInt(most - least + 1);
    }

    private void call(int which, boolean many) {
        switch (NAMES[which]) {
            case "write": same(which, from(1, 8), random.nextLong()); break;
            case "boat": same(which, from(0, 5), 0); break;
            case "person": same(which, someone(), from(0, 5)); break;
            case "gain": same(which, someone(), random.nextInt(3) == 0 ? from(-3, 3) : -1 + random.nextInt(3)); break;
            case "minutes": same(which, random.nextInt(2) == 0 ? 0 : from(0, 9), 0); break;
            case "lay": layOrFollow(which); break;
            case "weighs": same(which, from(0, 2), from(0, 9)); break;
            case "off": same(which, from(0, 9), 0); break;
            case "left": same(which, from(0, 3), from(0, 2)); break;
            case "makes": same(which, random.nextInt(2) == 0 ? from(1, 99) : from(1, 25), 0); break;
            case "bestMakes": if (!many || random.nextInt(20) == 0) { same(which, 0, 0); } break;
            case "crossings": same(which, from(1, 4), 0); break;
            case "claim": same(which, someone(), random.nextInt(2) == 0 ? from(1, 99) : from(1, 20)); break;
            case "keep": case "again": same(which, from(0, 1), 0); break;
            case "count": same(which, from(0, 6), 0); break;
            case "unlay": case "bestAt": case "worth": case "ruleAt": case "mayWeigh": same(which, someone(), 0); break;
            default: same(which, 0, 0);
        }
    }

    /** Crews that are laid at random seldom leave, so sometimes the best choice is laid. */
    private void layOrFollow(int which) {
        if (random.nextInt(6) != 0) {
            same(which, someone(), from(0, 2));
            return;
        }
        for (int p = 0; p < people; p++) {
            same(9, p, 0);
        }
        for (int p = 0; p < people; p++) {
            if (model.bestAt(p) >= 0) {
                same(which, p, model.bestAt(p));
            }
        }
        if (random.nextBoolean()) {
            same(12, 0, 0);
        }
    }

    /** A row of numbers that looks drawn, but is the same in every run of the test. */
    private static final class Draw {
        private long state;

        Draw(int run) {
            state = 7919L * run + 5;
            nextLong();
        }

        long nextLong() {
            state = state * 6364136223846793005L + 1442695040888963407L;
            long mixed = (state ^ state >>> 29) * 0xBF58476D1CE4E5B9L;
            return mixed ^ mixed >>> 32;
        }

        int nextInt(int bound) {
            return (int) Long.remainderUnsigned(nextLong(), bound);
        }

        boolean nextBoolean() {
            return nextInt(2) == 0;
        }
    }

    private int same(int which, int a, long b) {
        made++;
        int want = answer(which, a, b, false);
        int got = answer(which, a, b, true);
        story.append(NAMES[which]).append('(').append(a).append(", ").append(b).append(")=").append(got).append(' ');
        if (want != got) {
            CHECK.due(story.toString(), want, got);
        }
        if (want > 0) {
            GOOD[which]++;
        }
        return want;
    }

    private int answer(int which, int a, long l, boolean real) {
        int b = (int) l;
        switch (NAMES[which]) {
            case "write": return real ? x.write(a, l) : model.write(a, l);
            case "wipe": return real ? x.wipe() : model.wipe();
            case "fault": return real ? x.fault() : model.fault();
            case "ferry": return real ? x.ferry() : model.ferry();
            case "boat": return real ? x.boat(a) : model.boat(a);
            case "person": return real ? x.person(a, b) : model.person(a, b);
            case "gain": return real ? x.gain(a, b) : model.gain(a, b);
            case "minutes": return real ? x.minutes(a) : model.minutes(a);
            case "lay": return real ? x.lay(a, b) : model.lay(a, b);
            case "unlay": return real ? x.unlay(a) : model.unlay(a);
            case "weighs": return real ? x.weighs(a, b) : model.weighs(a, b);
            case "off": return real ? x.off(a) : model.off(a);
            case "leave": return real ? x.leave() : model.leave();
            case "back": return real ? x.back() : model.back();
            case "left": return real ? x.left(a, b) : model.left(a, b);
            case "best": return real ? x.best() : model.best();
            case "bestAt": return real ? x.bestAt(a) : model.bestAt(a);
            case "worth": return real ? x.worth(a) : model.worth(a);
            case "makes": return real ? x.makes(a) : model.makes(a);
            case "bestMakes": return real ? x.bestMakes() : model.bestMakes();
            case "sets": return real ? x.sets() : model.sets();
            case "crossings": return real ? x.crossings(a) : model.crossings(a);
            case "all": return real ? x.all() : model.all();
            case "rule": return real ? x.rule() : model.rule();
            case "ruleAt": return real ? x.ruleAt(a) : model.ruleAt(a);
            case "claim": return real ? x.claim(a, b) : model.claim(a, b);
            case "fits": return real ? x.fits() : model.fits();
            case "liars": return real ? x.liars() : model.liars();
            case "mayWeigh": return real ? x.mayWeigh(a) : model.mayWeigh(a);
            case "keep": return real ? x.keep(a) : model.keep(a);
            case "again": return real ? x.again(a) : model.again(a);
            default: return real ? x.count(a) : model.count(a);
        }
    }
}
