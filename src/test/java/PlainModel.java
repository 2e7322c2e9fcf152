import java.util.ArrayList;
import java.util.Arrays;
import java.util.HashMap;
import java.util.List;
import java.util.Map;
import java.util.TreeSet;
import java.util.regex.Matcher;
import java.util.regex.Pattern;

/**
 * The document once more, written to be read and not to be quick, and apart from the class:
 * it tries every crew, every make-weight and every claim one by one.
 */
final class PlainModel {
    static final int UNKNOWN = -1, OUTSIDE = -2, STATE = -3, FULL = -4, NONE = -9;
    private static final int NOT = -1;
    private static final String WEIGHT = "(0[1-9]|[1-9][0-9])";
    private static final Pattern FERRY = Pattern.compile(
            "B2[1-3][1-3][1-8][0-9](P" + WEIGHT + "[0-9][013]){0,8}"
            + "|B3[1-3][1-3][1-8][0-9](P" + WEIGHT + "[0-9][0123]){0,8}", Pattern.DOTALL);

    /** What a slot keeps; seat holds an END or NOT for each person. */
    private static final class Kept {
        int[] seat;
        List<int[]> boats = new ArrayList<>();
        int[] gains;
        int[] claims;
        int minutes;

        Kept copy() {
            Kept k = new Kept();
            k.seat = seat.clone();
            for (int[] boat : boats) {
                k.boats.add(boat.clone());
            }
            k.gains = gains.clone();
            k.claims = claims.clone();
            k.minutes = minutes;
            return k;
        }
    }

    private String text = "";
    private String ferry = "B21180";
    private Kept now = new Kept();
    private final Map<Integer, Kept> slots = new HashMap<>();

    PlainModel() {
        begin();
    }

    private void begin() {
        now = new Kept();
        now.seat = new int[people()];
        now.gains = new int[people()];
        now.claims = new int[people()];
        for (int p = 0; p < people(); p++) {
            now.seat[p] = NOT;
            now.claims[p] = weight(p);
        }
        slots.clear();
    }

    private int ends() { return ferry.charAt(1) - '0'; }
    private int takes() { return ferry.charAt(4) - '0'; }
    private int people() { return (ferry.length() - 6) / 5; }
    private int weight(int p) { return Integer.parseInt(ferry.substring(7 + 5 * p, 9 + 5 * p)); }
    private int fare(int p) { return ferry.charAt(9 + 5 * p) - '0'; }
    private int wish(int p) { return ferry.charAt(10 + 5 * p) - '0'; }
    private boolean isPerson(int p) { return p >= 0 && p < people(); }
    private boolean isEnd(int e) { return e >= 0 && e < ends(); }
    private boolean sits(int p, int e) { return wish(p) == 3 || wish(p) == e; }

    private boolean gone(int p) {
        for (int[] boat : now.boats) {
            if (boat[p] != NOT) {
                return true;
            }
        }
        return false;
    }

    // ---- the ferry

    int write(int n, long v) {
        if (n < 1 || n > 8) {
            return OUTSIDE;
        }
        if (text.length() + n > 48) {
            return FULL;
        }
        String hex = String.format("%016x", v);
        for (int i = 16 - 2 * n; i < 16; i += 2) {
            text += (char) Integer.parseInt(hex.substring(i, i + 2), 16);
        }
        return text.length();
    }

    int wipe() {
        int was = text.length();
        text = "";
        return was;
    }

    int fault() {
        for (int n = 1; n <= text.length(); n++) {
            Matcher m = FERRY.matcher(text.substring(0, n));
            if (!m.matches() && !m.hitEnd()) {
                return n - 1;
            }
        }
        return FERRY.matcher(text).matches() ? NONE : text.length();
    }

    int ferry() {
        if (fault() != NONE) {
            return STATE;
        }
        ferry = text;
        begin();
        return people();
    }

    int boat(int what) {
        if (what < 0 || what > 5) {
            return OUTSIDE;
        }
        return what == 5 ? now.minutes : ferry.charAt(1 + what) - '0';
    }

    int person(int p, int what) {
        if (!isPerson(p)) {
            return UNKNOWN;
        }
        if (what < 0 || what > 5) {
            return OUTSIDE;
        }
        int where = gone(p) ? 20 : now.seat[p] != NOT ? now.seat[p] : 10;
        return new int[] {weight(p), fare(p), wish(p), now.gains[p] + 10, now.claims[p], where}[what];
    }

    int gain(int p, int g) {
        if (!isPerson(p)) {
            return UNKNOWN;
        }
        if (Math.abs((long) g) > 3) {
            return OUTSIDE;
        }
        int was = now.gains[p] + 10;
        now.gains[p] = g;
        return was;
    }

    int minutes(int m) {
        if (m < 0 || m > 9) {
            return OUTSIDE;
        }
        int was = now.minutes;
        now.minutes = m;
        return was;
    }

    // ---- laid, left

    private static int sitting(int[] seat, int e) {
        int n = 0;
        for (int at : seat) {
            n += at == e ? 1 : 0;
        }
        return n;
    }

    private int laidOnes() {
        return people() - sitting(now.seat, NOT);
    }

    int lay(int p, int e) {
        if (!isPerson(p) || !isEnd(e)) {
            return UNKNOWN;
        }
        if (gone(p) || now.seat[p] != NOT || !sits(p, e)) {
            return STATE;
        }
        if (sitting(now.seat, e) == takes()) {
            return FULL;
        }
        now.seat[p] = e;
        return sitting(now.seat, e);
    }

    int unlay(int p) {
        if (!isPerson(p)) {
            return UNKNOWN;
        }
        if (now.seat[p] == NOT) {
            return STATE;
        }
        now.seat[p] = NOT;
        return laidOnes();
    }

    private int endWeighs(int[] seat, int[] pounds, int e, int minutes) {
        int sum = e == 0 ? boat(4) : 0;
        for (int p = 0; p < people(); p++) {
            if (seat[p] == e) {
                int w = pounds[p];
                for (int m = 0; m < minutes; m++) {
                    w = Math.max(0, w + now.gains[p]);
                }
                sum += w;
            }
        }
        return sum;
    }

    private int[] weights() {
        int[] w = new int[people()];
        for (int p = 0; p < w.length; p++) {
            w[p] = weight(p);
        }
        return w;
    }

    int weighs(int e, int minutes) {
        if (!isEnd(e)) {
            return UNKNOWN;
        }
        if (minutes < 0 || minutes > 9) {
            return OUTSIDE;
        }
        return endWeighs(now.seat, weights(), e, minutes);
    }

    /** x pounds more at an END, which may be NOT. */
    private int offOf(int[] seat, int[] pounds, int minutes, int x, int xEnd) {
        int[] w = new int[ends()];
        for (int e = 0; e < ends(); e++) {
            w[e] = endWeighs(seat, pounds, e, minutes) + (e == xEnd ? x : 0);
        }
        if (ends() == 2) {
            return boat(1) * w[0] - boat(2) * w[1];
        }
        Arrays.sort(w);
        return w[2] - w[0];
    }

    int off(int minutes) {
        if (minutes < 0 || minutes > 9) {
            return OUTSIDE;
        }
        return 10000 + offOf(now.seat, weights(), minutes, 0, NOT);
    }

    private boolean level(int[] seat, int[] pounds, int x, int xEnd) {
        return offOf(seat, pounds, 0, x, xEnd) == 0 && offOf(seat, pounds, now.minutes, x, xEnd) == 0;
    }

    private int faresOf(int[] seat) {
        int sum = 0;
        for (int p = 0; p < people(); p++) {
            sum += seat[p] == NOT ? 0 : fare(p);
        }
        return sum;
    }

    int leave() {
        if (laidOnes() == 0 || !level(now.seat, weights(), 0, NOT)) {
            return STATE;
        }
        if (now.boats.size() == 8) {
            return FULL;
        }
        now.boats.add(now.seat);
        int fares = faresOf(now.seat);
        now.seat = new int[people()];
        Arrays.fill(now.seat, NOT);
        return fares;
    }

    int back() {
        if (now.boats.isEmpty()) {
            return STATE;
        }
        now.seat = now.boats.remove(now.boats.size() - 1);
        return now.boats.size();
    }

    int left(int boat, int e) {
        if (boat < 0 || boat >= now.boats.size() || !isEnd(e)) {
            return UNKNOWN;
        }
        int bits = 0;
        for (int p = 0; p < people(); p++) {
            bits += now.boats.get(boat)[p] == e ? 1 << p : 0;
        }
        return bits;
    }

    // ---- choices

    /** What a search over all crews found. */
    private final class Search {
        final int[] seat = new int[people()];
        final int without;
        final int x;
        final int xEnd;
        int[] best = null;
        final TreeSet<Integer> sets = new TreeSet<>();

        Search(int without, int x, int xEnd) {
            this.without = without;
            this.x = x;
            this.xEnd = xEnd;
            Arrays.fill(seat, NOT);
            from(0);
        }

        private void from(int p) {
            if (p == people()) {
                look();
                return;
            }
            seat[p] = NOT;
            from(p + 1);
            for (int e = 0; e < ends() && !gone(p) && p != without; e++) {
                int room = takes() - (e == xEnd ? 1 : 0);
                seat[p] = NOT;
                if (sits(p, e) && sitting(Arrays.copyOf(seat, p), e) < room) {
                    seat[p] = e;
                    from(p + 1);
                }
            }
            seat[p] = NOT;
        }

        /** Crews come in their order, so that of like ones the first stays. */
        private void look() {
            int heads = people() - sitting(seat, NOT);
            if (heads == 0 || !level(seat, weights(), x, xEnd)) {
                return;
            }
            int set = 0;
            for (int p = 0; p < people(); p++) {
                set |= seat[p] == NOT ? 0 : 1 << p;
            }
            sets.add(set);
            int bestHeads = best == null ? 0 : people() - sitting(best, NOT);
            if (best == null || faresOf(seat) > faresOf(best)
                    || faresOf(seat) == faresOf(best) && heads > bestHeads) {
                best = seat.clone();
            }
        }

        int fares() {
            return best == null ? 0 : faresOf(best);
        }
    }

    int best() {
        Search s = new Search(NOT, 0, NOT);
        return s.best == null ? NONE : s.fares();
    }

    int bestAt(int p) {
        if (!isPerson(p)) {
            return UNKNOWN;
        }
        Search s = new Search(NOT, 0, NOT);
        return s.best == null || s.best[p] == NOT ? NONE : s.best[p];
    }

    int worth(int p) {
        if (!isPerson(p)) {
            return UNKNOWN;
        }
        if (gone(p)) {
            return STATE;
        }
        return new Search(NOT, 0, NOT).fares() - new Search(p, 0, NOT).fares();
    }

    int makes(int x) {
        if (x < 1 || x > 99) {
            return OUTSIDE;
        }
        int plain = new Search(NOT, 0, NOT).fares();
        int most = plain;
        for (int e = 0; e < ends(); e++) {
            most = Math.max(most, new Search(NOT, x, e).fares());
        }
        return most - plain;
    }

    int bestMakes() {
        int best = NONE;
        int most = 0;
        for (int x = 1; x <= 99; x++) {
            int m = makes(x);
            if (m > most) {
                most = m;
                best = x;
            }
        }
        return best;
    }

    int sets() {
        return new Search(NOT, 0, NOT).sets.size();
    }

    private int fareOfSet(int set) {
        int sum = 0;
        for (int p = 0; p < people(); p++) {
            sum += (set >> p & 1) * fare(p);
        }
        return sum;
    }

    private int mostFares(TreeSet<Integer> sets, int gone, int r, Map<Integer, Integer> known) {
        if (r == 0) {
            return 0;
        }
        Integer seen = known.get(gone * 8 + r);
        if (seen != null) {
            return seen;
        }
        int most = 0;
        for (int set : sets) {
            if ((set & gone) == 0) {
                most = Math.max(most, fareOfSet(set) + mostFares(sets, gone | set, r - 1, known));
            }
        }
        known.put(gone * 8 + r, most);
        return most;
    }

    int crossings(int r) {
        if (r < 1 || r > 4) {
            return OUTSIDE;
        }
        return mostFares(new Search(NOT, 0, NOT).sets, 0, r, new HashMap<>());
    }

    int all() {
        int waiting = 0;
        for (int p = 0; p < people(); p++) {
            waiting |= gone(p) ? 0 : 1 << p;
        }
        TreeSet<Integer> sets = new Search(NOT, 0, NOT).sets;
        TreeSet<Integer> reached = new TreeSet<>(List.of(0));
        for (int n = 0; n <= 8; n++) {
            if (reached.contains(waiting)) {
                return n;
            }
            TreeSet<Integer> next = new TreeSet<>();
            for (int gone : reached) {
                for (int set : sets) {
                    if ((set & gone) == 0) {
                        next.add(set | gone);
                    }
                }
            }
            reached = next;
        }
        return NONE;
    }

    private int[] ruled() {
        int[] seat = new int[people()];
        Arrays.fill(seat, NOT);
        for (int p = 0; p < people(); p++) {
            int end = NOT;
            int least = Integer.MAX_VALUE;
            for (int e = ends() - 1; e >= 0 && !gone(p); e--) {
                int w = endWeighs(seat, weights(), e, 0) * (ends() == 3 ? 1 : boat(1 + e));
                if (sits(p, e) && sitting(seat, e) < takes() && w <= least) {
                    least = w;
                    end = e;
                }
            }
            seat[p] = end;
        }
        return seat;
    }

    int rule() {
        int[] seat = ruled();
        return level(seat, weights(), 0, NOT) ? faresOf(seat) : 0;
    }

    int ruleAt(int p) {
        if (!isPerson(p)) {
            return UNKNOWN;
        }
        int e = ruled()[p];
        return e == NOT ? NONE : e;
    }

    // ---- claims

    int claim(int p, int weight) {
        if (!isPerson(p)) {
            return UNKNOWN;
        }
        if (weight < 1 || weight > 99) {
            return OUTSIDE;
        }
        int was = now.claims[p];
        now.claims[p] = weight;
        return was;
    }

    private boolean fit(int[] claims) {
        boolean ok = true;
        for (int[] boat : now.boats) {
            ok &= level(boat, claims, 0, NOT);
        }
        return ok;
    }

    int fits() {
        return fit(now.claims) ? 1 : 0;
    }

    int liars() {
        int bits = 0;
        for (int p = 0; p < people() && !fit(now.claims); p++) {
            bits |= mayWeigh(p) > 0 ? 1 << p : 0;
        }
        return bits;
    }

    int mayWeigh(int p) {
        if (!isPerson(p)) {
            return UNKNOWN;
        }
        int n = 0;
        for (int c = 1; c <= 99; c++) {
            int[] claims = now.claims.clone();
            claims[p] = c;
            n += fit(claims) ? 1 : 0;
        }
        return n;
    }

    // ---- slots

    int keep(int slot) {
        if (slot != 0 && slot != 1) {
            return UNKNOWN;
        }
        slots.put(slot, now.copy());
        return now.boats.size();
    }

    int again(int slot) {
        if (slot != 0 && slot != 1) {
            return UNKNOWN;
        }
        if (!slots.containsKey(slot)) {
            return STATE;
        }
        now = slots.get(slot).copy();
        return now.boats.size();
    }

    int count(int what) {
        int gone = 0;
        int brought = 0;
        for (int p = 0; p < people(); p++) {
            gone += gone(p) ? 1 : 0;
            brought += gone(p) ? fare(p) : 0;
        }
        int[] all = {text.length(), people(), people() - gone, laidOnes(), gone, now.boats.size(), brought};
        return what < 0 || what > 6 ? OUTSIDE : all[what];
    }
}
