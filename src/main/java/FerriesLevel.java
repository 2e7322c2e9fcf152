/**
 * Ferries that leave level: see README.md for how to use it.
 *
 * Who sits where is held as one int, a CREW: eight bits for each END, END 0 lowest,
 * in each the bit of a PERSON that sits there. A set of PEOPLE is one int of eight bits.
 */
public final class FerriesLevel {
    public static final int UNKNOWN = -1, OUTSIDE = -2, STATE = -3, FULL = -4, NONE = -9;

    private static final int MOST_BYTES = 48;
    private static final int BOAT_BYTES = 6;
    private static final int PERSON_BYTES = 5;
    private static final int MOST_PEOPLE = 8;
    private static final int MOST_BOATS = 8;
    private static final int MOST_ENDS = 3;
    private static final int ANY_END = 3;
    private static final int LAST_MINUTE = 9;
    private static final int MOST_GAIN = 3;
    private static final int MOST_POUNDS = 99;
    private static final int MOST_CROSSINGS = 4;
    private static final int EVERYONE = 255;
    private static final int WAITS = 10;
    private static final int GONE = 20;
    private static final int GAIN_SHIFT = 10;
    private static final int OFF_SHIFT = 10000;

    private final Script script = new Script();
    private final Craft craft = new Craft();
    private final Log log = new Log();
    private final Log slotZero = new Log();
    private final Log slotOne = new Log();
    private final Planner planner = new Planner();

    public FerriesLevel() {
    }

    // ---- the ferry

    public int write(int n, long v) {
        if (n < 1 || n > 8) {
            return OUTSIDE;
        }
        if (script.length + n > MOST_BYTES) {
            return FULL;
        }
        script.append(n, v);
        return script.length;
    }

    public int wipe() {
        int was = script.length;
        script.length = 0;
        return was;
    }

    public int fault() {
        return script.firstFault();
    }

    public int ferry() {
        if (script.firstFault() != NONE) {
            return STATE;
        }
        craft.readFrom(script);
        log.startAnew(craft);
        slotZero.filled = false;
        slotOne.filled = false;
        planner.forget();
        return craft.people;
    }

    public int boat(int what) {
        switch (what) {
            case 0: return craft.ends;
            case 1: return craft.armA;
            case 2: return craft.armB;
            case 3: return craft.seats;
            case 4: return craft.list;
            case 5: return log.minutes;
            default: return OUTSIDE;
        }
    }

    public int person(int person, int what) {
        if (!craft.hasPerson(person)) {
            return UNKNOWN;
        }
        switch (what) {
            case 0: return craft.weight[person];
            case 1: return craft.fare[person];
            case 2: return craft.wish[person];
            case 3: return log.gains[person] + GAIN_SHIFT;
            case 4: return log.claims[person];
            case 5: return log.placeOf(person);
            default: return OUTSIDE;
        }
    }

    public int gain(int person, int g) {
        if (!craft.hasPerson(person)) {
            return UNKNOWN;
        }
        if (g < -MOST_GAIN || g > MOST_GAIN) {
            return OUTSIDE;
        }
        int was = log.gains[person];
        log.gains[person] = g;
        planner.forget();
        return was + GAIN_SHIFT;
    }

    public int minutes(int m) {
        if (!isMinute(m)) {
            return OUTSIDE;
        }
        int was = log.minutes;
        log.minutes = m;
        planner.forget();
        return was;
    }

    // ---- laid, left

    public int lay(int person, int end) {
        if (!craft.hasPerson(person) || !craft.hasEnd(end)) {
            return UNKNOWN;
        }
        if (log.placeOf(person) != WAITS || !craft.willSit(person, end)) {
            return STATE;
        }
        int sitting = Integer.bitCount(sitters(log.laid(), end));
        if (sitting >= craft.seats) {
            return FULL;
        }
        log.setLaid(seat(log.laid(), person, end));
        return sitting + 1;
    }

    public int unlay(int person) {
        if (!craft.hasPerson(person)) {
            return UNKNOWN;
        }
        int end = endOf(log.laid(), person);
        if (end == NONE) {
            return STATE;
        }
        log.setLaid(unseat(log.laid(), person, end));
        return Integer.bitCount(log.laid());
    }

    public int weighs(int end, int minutes) {
        if (!craft.hasEnd(end)) {
            return UNKNOWN;
        }
        if (!isMinute(minutes)) {
            return OUTSIDE;
        }
        return craft.loadOf(log.laid(), end, craft.weight, log.gains, minutes);
    }

    public int off(int minutes) {
        if (!isMinute(minutes)) {
            return OUTSIDE;
        }
        return craft.tiltOf(log.laid(), craft.weight, log.gains, minutes) + OFF_SHIFT;
    }

    public int leave() {
        int crew = log.laid();
        if (crew == 0 || !craft.isLevel(crew, craft.weight, log)) {
            return STATE;
        }
        if (log.boats >= MOST_BOATS) {
            return FULL;
        }
        log.depart();
        planner.forget();
        return craft.faresOf(members(crew));
    }

    public int back() {
        if (log.boats < 1) {
            return STATE;
        }
        log.takeBack();
        planner.forget();
        return log.boats;
    }

    public int left(int boat, int end) {
        if (boat < 0 || boat >= log.boats || !craft.hasEnd(end)) {
            return UNKNOWN;
        }
        return sitters(log.crewOf(boat), end);
    }

    // ---- choices

    public int best() {
        planner.findChoices(craft, log);
        return planner.hasChoice() ? planner.bestFares() : NONE;
    }

    public int bestAt(int person) {
        if (!craft.hasPerson(person)) {
            return UNKNOWN;
        }
        planner.findChoices(craft, log);
        return endOf(planner.bestCrew, person);
    }

    public int worth(int person) {
        if (!craft.hasPerson(person)) {
            return UNKNOWN;
        }
        if (log.placeOf(person) == GONE) {
            return STATE;
        }
        planner.findChoices(craft, log);
        return planner.bestFares() - planner.faresWithout(person);
    }

    public int makes(int x) {
        if (x < 1 || x > MOST_POUNDS) {
            return OUTSIDE;
        }
        planner.findChoices(craft, log);
        planner.findMakeWeights();
        return planner.madeBy(x);
    }

    public int bestMakes() {
        planner.findChoices(craft, log);
        planner.findMakeWeights();
        return planner.bestMakeWeight();
    }

    public int sets() {
        planner.findChoices(craft, log);
        return planner.countSets();
    }

    public int crossings(int r) {
        if (r < 1 || r > MOST_CROSSINGS) {
            return OUTSIDE;
        }
        planner.findChoices(craft, log);
        planner.findChains();
        return planner.faresWithin(r);
    }

    public int all() {
        planner.findChoices(craft, log);
        planner.findChains();
        return planner.fewestForAll();
    }

    public int rule() {
        int crew = crewByRule();
        return craft.isLevel(crew, craft.weight, log) ? craft.faresOf(members(crew)) : 0;
    }

    public int ruleAt(int person) {
        if (!craft.hasPerson(person)) {
            return UNKNOWN;
        }
        return endOf(crewByRule(), person);
    }

    // ---- claims

    public int claim(int person, int weight) {
        if (!craft.hasPerson(person)) {
            return UNKNOWN;
        }
        if (weight < 1 || weight > MOST_POUNDS) {
            return OUTSIDE;
        }
        int was = log.claims[person];
        log.claims[person] = weight;
        return was;
    }

    public int fits() {
        return boatsFitBut(NONE) ? 1 : 0;
    }

    public int liars() {
        if (boatsFitBut(NONE)) {
            return 0;
        }
        int bits = 0;
        for (int person = 0; person < craft.people; person++) {
            if (claimsThatFit(person) > 0) {
                bits |= 1 << person;
            }
        }
        return bits;
    }

    public int mayWeigh(int person) {
        if (!craft.hasPerson(person)) {
            return UNKNOWN;
        }
        return claimsThatFit(person);
    }

    // ---- slots

    public int keep(int slot) {
        if (!isSlot(slot)) {
            return UNKNOWN;
        }
        Log kept = slotOf(slot);
        kept.copyFrom(log);
        kept.filled = true;
        return log.boats;
    }

    public int again(int slot) {
        if (!isSlot(slot)) {
            return UNKNOWN;
        }
        Log kept = slotOf(slot);
        if (!kept.filled) {
            return STATE;
        }
        log.copyFrom(kept);
        planner.forget();
        return log.boats;
    }

    public int count(int what) {
        switch (what) {
            case 0: return script.length;
            case 1: return craft.people;
            case 2: return craft.people - Integer.bitCount(log.gone());
            case 3: return Integer.bitCount(log.laid());
            case 4: return Integer.bitCount(log.gone());
            case 5: return log.boats;
            case 6: return craft.faresOf(log.gone());
            default: return OUTSIDE;
        }
    }

    private static boolean isSlot(int slot) {
        return slot == 0 || slot == 1;
    }

    private Log slotOf(int slot) {
        return slot == 0 ? slotZero : slotOne;
    }

    // ---- a boatman's rule

    private int crewByRule() {
        int gone = log.gone();
        int crew = 0;
        for (int person = 0; person < craft.people; person++) {
            if ((gone >> person & 1) == 0) {
                int end = lightestEnd(crew, person);
                if (end != NONE) {
                    crew = seat(crew, person, end);
                }
            }
        }
        return crew;
    }

    private int lightestEnd(int crew, int person) {
        int lightest = NONE;
        int least = 0;
        for (int end = 0; end < craft.ends; end++) {
            boolean takes = Integer.bitCount(sitters(crew, end)) < craft.seats;
            if (takes && craft.willSit(person, end)) {
                int pull = craft.armOf(end) * craft.loadOf(crew, end, craft.weight, log.gains, 0);
                if (lightest == NONE || pull < least) {
                    lightest = end;
                    least = pull;
                }
            }
        }
        return lightest;
    }

    // ---- what the claims say

    private boolean boatsFitBut(int setAside) {
        for (int boat = 0; boat < log.boats; boat++) {
            if (boat != setAside && !craft.isLevel(log.crewOf(boat), log.claims, log)) {
                return false;
            }
        }
        return true;
    }

    /** A PERSON sat in one BOAT at most, so its claim can mend no other. */
    private int claimsThatFit(int person) {
        int own = log.boatOf(person);
        if (!boatsFitBut(own)) {
            return 0;
        }
        if (own == NONE) {
            return MOST_POUNDS;
        }
        int said = log.claims[person];
        int fitting = 0;
        for (int pounds = 1; pounds <= MOST_POUNDS; pounds++) {
            log.claims[person] = pounds;
            if (craft.isLevel(log.crewOf(own), log.claims, log)) {
                fitting++;
            }
        }
        log.claims[person] = said;
        return fitting;
    }

    // ---- crews

    private static int sitters(int crew, int end) {
        return crew >>> (8 * end) & EVERYONE;
    }

    private static int members(int crew) {
        return (crew | crew >>> 8 | crew >>> 16) & EVERYONE;
    }

    private static int seat(int crew, int person, int end) {
        return crew | 1 << (8 * end + person);
    }

    private static int unseat(int crew, int person, int end) {
        return crew & ~(1 << (8 * end + person));
    }

    private static int endOf(int crew, int person) {
        for (int end = 0; end < MOST_ENDS; end++) {
            if ((sitters(crew, end) >> person & 1) != 0) {
                return end;
            }
        }
        return NONE;
    }

    private static boolean isMinute(int m) {
        return m >= 0 && m <= LAST_MINUTE;
    }

    /** With one GAIN for all minutes it is no matter that it stops at 0 each minute. */
    private static int poundsAfter(int pounds, int gain, int minutes) {
        int then = pounds + gain * minutes;
        return then < 0 ? 0 : then;
    }

    /** THE TEXT. */
    private static final class Script {
        final int[] bytes = new int[MOST_BYTES];
        int length = 0;

        void append(int n, long v) {
            for (int i = n - 1; i >= 0 && length < MOST_BYTES; i--) {
                bytes[length] = (int) (v >>> (8 * i)) & 255;
                length++;
            }
        }

        int firstFault() {
            for (int at = 0; at < length; at++) {
                if (!mayStand(at)) {
                    return at;
                }
            }
            boolean whole = length >= BOAT_BYTES && (length - BOAT_BYTES) % PERSON_BYTES == 0;
            return whole ? NONE : length;
        }

        /** Whether the byte at a place may stand there behind those ahead of it. */
        private boolean mayStand(int at) {
            if (at >= BOAT_BYTES) {
                return at < BOAT_BYTES + MOST_PEOPLE * PERSON_BYTES && mayStandInPerson(at);
            }
            switch (at) {
                case 0: return byteAt(0) == 'B';
                case 1: return isFigure(at, 2, 3);
                case 2: return isFigure(at, 1, 3);
                case 3: return isFigure(at, 1, 3);
                case 4: return isFigure(at, 1, 8);
                default: return isFigure(at, 0, 9);
            }
        }

        private boolean mayStandInPerson(int at) {
            switch ((at - BOAT_BYTES) % PERSON_BYTES) {
                case 0: return byteAt(at) == 'P';
                case 2: return isFigure(at, figure(at - 1) == 0 ? 1 : 0, 9);
                case 4: return figure(at) == ANY_END || isFigure(at, 0, figure(1) - 1);
                default: return isFigure(at, 0, 9);
            }
        }

        private boolean isFigure(int at, int least, int most) {
            return figure(at) >= least && figure(at) <= most;
        }

        int figure(int at) {
            return byteAt(at) - '0';
        }

        private int byteAt(int at) {
            return at >= 0 && at < length && at < MOST_BYTES ? bytes[at] : 0;
        }
    }

    /** THE FERRY as it is told. */
    private static final class Craft {
        int ends = 2;
        int armA = 1;
        int armB = 1;
        int seats = 8;
        int list = 0;
        int people = 0;
        final int[] weight = new int[MOST_PEOPLE];
        final int[] fare = new int[MOST_PEOPLE];
        final int[] wish = new int[MOST_PEOPLE];

        /** Only for a text without a fault. */
        void readFrom(Script text) {
            ends = text.figure(1);
            armA = text.figure(2);
            armB = text.figure(3);
            seats = text.figure(4);
            list = text.figure(5);
            people = Math.min(MOST_PEOPLE, (text.length - BOAT_BYTES) / PERSON_BYTES);
            for (int person = 0; person < people; person++) {
                int at = BOAT_BYTES + person * PERSON_BYTES;
                weight[person] = 10 * text.figure(at + 1) + text.figure(at + 2);
                fare[person] = text.figure(at + 3);
                wish[person] = text.figure(at + 4);
            }
        }

        boolean hasPerson(int person) {
            return person >= 0 && person < people;
        }

        boolean hasEnd(int end) {
            return end >= 0 && end < ends;
        }

        boolean willSit(int person, int end) {
            return hasEnd(end) && hasPerson(person)
                    && (wish[person] == ANY_END || wish[person] == end);
        }

        /** With three ENDS the arms are told, but count for nothing. */
        int armOf(int end) {
            if (ends != 2) {
                return 1;
            }
            return end == 0 ? armA : armB;
        }

        int faresOf(int set) {
            int sum = 0;
            for (int person = 0; person < people; person++) {
                if ((set >> person & 1) != 0) {
                    sum += fare[person];
                }
            }
            return sum;
        }

        /** The weights are told apart from the ferry, since claims are weighed too. */
        int loadOf(int crew, int end, int[] pounds, int[] gains, int minutes) {
            int set = sitters(crew, end);
            int sum = end == 0 ? list : 0;
            for (int person = 0; person < people; person++) {
                if ((set >> person & 1) != 0) {
                    sum += poundsAfter(pounds[person], gains[person], minutes);
                }
            }
            return sum;
        }

        int tiltOf(int crew, int[] pounds, int[] gains, int minutes) {
            int first = loadOf(crew, 0, pounds, gains, minutes);
            int second = loadOf(crew, 1, pounds, gains, minutes);
            if (ends == 2) {
                return armA * first - armB * second;
            }
            int third = loadOf(crew, 2, pounds, gains, minutes);
            int most = Math.max(first, Math.max(second, third));
            int least = Math.min(first, Math.min(second, third));
            return most - least;
        }

        boolean isLevel(int crew, int[] pounds, Log log) {
            return tiltOf(crew, pounds, log.gains, 0) == 0
                    && tiltOf(crew, pounds, log.gains, log.minutes) == 0;
        }
    }

    /** What a SLOT keeps. */
    private static final class Log {
        /** The crews of BOATS that left; behind them the one that is laid now. */
        final int[] crews = new int[MOST_BOATS + 1];
        final int[] gains = new int[MOST_PEOPLE];
        final int[] claims = new int[MOST_PEOPLE];
        int boats = 0;
        int minutes = 0;
        boolean filled = false;

        void startAnew(Craft craft) {
            boats = 0;
            minutes = 0;
            for (int boat = 0; boat <= MOST_BOATS; boat++) {
                crews[boat] = 0;
            }
            for (int person = 0; person < MOST_PEOPLE; person++) {
                gains[person] = 0;
                claims[person] = craft.weight[person];
            }
        }

        void copyFrom(Log other) {
            boats = other.boats;
            minutes = other.minutes;
            for (int boat = 0; boat <= MOST_BOATS; boat++) {
                crews[boat] = other.crews[boat];
            }
            for (int person = 0; person < MOST_PEOPLE; person++) {
                gains[person] = other.gains[person];
                claims[person] = other.claims[person];
            }
        }

        int crewOf(int boat) {
            return boat >= 0 && boat <= MOST_BOATS ? crews[boat] : 0;
        }

        int laid() {
            return crewOf(boats);
        }

        void setLaid(int crew) {
            if (boats >= 0 && boats <= MOST_BOATS) {
                crews[boats] = crew;
            }
        }

        /** What stands behind the last BOAT may be of one that was taken back. */
        void depart() {
            if (boats < MOST_BOATS) {
                boats++;
                setLaid(0);
            }
        }

        /** The crew of the last BOAT becomes the one that is laid. */
        void takeBack() {
            if (boats > 0) {
                boats--;
            }
        }

        int gone() {
            int set = 0;
            for (int boat = 0; boat < boats; boat++) {
                set |= members(crewOf(boat));
            }
            return set;
        }

        int boatOf(int person) {
            for (int boat = 0; boat < boats; boat++) {
                if (endOf(crewOf(boat), person) != NONE) {
                    return boat;
                }
            }
            return NONE;
        }

        int placeOf(int person) {
            if (boatOf(person) != NONE) {
                return GONE;
            }
            int end = endOf(laid(), person);
            return end == NONE ? WAITS : end;
        }
    }

    /**
     * The CHOICES. What it found is kept until forget(), since the search is dear.
     *
     * The weights at leaving and at arriving stand in one int, so that one comparison tells
     * whether both are level: the pounds at arriving count 65536 times. An END's PULL is its
     * arm times what it weighs; a crew is LEVEL if all its ENDS pull alike.
     *
     * A loop over all sets within an open one goes down from the open one: (set - 1) & open
     * is the next smaller, 0 the last, and -1 ends it.
     */
    private static final class Planner {
        private static final int SETS = 256;
        private static final int NEVER = 99;
        private static final int ARRIVING = 65536;
        private static final int BOTH_TIMES = 65537;
        private static final int NO_CHOICE = -1;
        private static final int AT_EACH_END = 0x010101;
        /** More than PEOPLE there can be, so that fares come ahead of them in a score. */
        private static final int SCORE_OF_FARE = 16;

        private final int[] load = new int[SETS];
        private final int[] fares = new int[SETS];
        private final int[] heads = new int[SETS];
        /** By the fewest how many CHOICES just this set is gone; 1 for a set that is one. */
        private final int[] fewest = new int[SETS];
        /** By the pounds of a MAKE-WEIGHT; at 0 the fares without one. */
        private final int[] faresMade = new int[MOST_POUNDS + 1];
        private final int[] willing = new int[MOST_ENDS];
        private final int[] arm = new int[MOST_ENDS];
        private final int[] emptyPull = new int[MOST_ENDS];
        private int ends = 2;
        private int seats = 0;
        private int size = 1;
        private int waiting = 0;
        private int bestScore = NO_CHOICE;
        int bestCrew = 0;
        private boolean choicesFound = false;
        private boolean chainsFound = false;
        private boolean makeWeightsFound = false;

        void forget() {
            choicesFound = false;
            chainsFound = false;
            makeWeightsFound = false;
        }

        // -- what is asked

        boolean hasChoice() {
            return bestScore != NO_CHOICE;
        }

        int bestFares() {
            return hasChoice() ? bestScore / SCORE_OF_FARE : 0;
        }

        int faresWithout(int person) {
            int most = 0;
            for (int set = 1; set < size; set++) {
                if (fewest[set] == 1 && (set >> person & 1) == 0) {
                    most = Math.max(most, fares[set]);
                }
            }
            return most;
        }

        int countSets() {
            int sum = 0;
            for (int set = 1; set < size; set++) {
                if (fewest[set] == 1) {
                    sum++;
                }
            }
            return sum;
        }

        int faresWithin(int crossings) {
            int most = 0;
            for (int set = 1; set < size; set++) {
                if (fewest[set] <= crossings) {
                    most = Math.max(most, fares[set]);
                }
            }
            return most;
        }

        int fewestForAll() {
            int least = fewest[waiting & EVERYONE];
            return least == NEVER ? NONE : least;
        }

        int madeBy(int pounds) {
            if (pounds < 1 || pounds > MOST_POUNDS) {
                return 0;
            }
            return faresMade[pounds] - bestFares();
        }

        int bestMakeWeight() {
            int bestPounds = NONE;
            int most = 0;
            for (int pounds = 1; pounds <= MOST_POUNDS; pounds++) {
                if (madeBy(pounds) > most) {
                    most = madeBy(pounds);
                    bestPounds = pounds;
                }
            }
            return bestPounds;
        }

        // -- what is found

        void findChoices(Craft craft, Log log) {
            if (choicesFound) {
                return;
            }
            prepare(craft, log);
            weighSets(craft, log);
            bestScore = NO_CHOICE;
            bestCrew = 0;
            searchWithLast(ends - 1, false);
            choicesFound = true;
        }

        /** Only behind findChoices. */
        void findMakeWeights() {
            if (makeWeightsFound) {
                return;
            }
            for (int pounds = 0; pounds <= MOST_POUNDS; pounds++) {
                faresMade[pounds] = bestFares();
            }
            for (int end = 0; end < ends; end++) {
                searchWithLast(end, true);
            }
            makeWeightsFound = true;
        }

        /** Only behind findChoices. */
        void findChains() {
            if (chainsFound) {
                return;
            }
            for (int set = 1; set < size; set++) {
                if (fewest[set] != 1) {
                    fewest[set] = fewestOf(set);
                }
            }
            chainsFound = true;
        }

        /** The order is free, so the CHOICE with the lowest PERSON is taken first. */
        private int fewestOf(int set) {
            int others = set & (set - 1);
            int lowest = set - others;
            int least = NEVER;
            for (int taken = others; taken >= 0; taken = taken == 0 ? -1 : (taken - 1) & others) {
                if (fewest[lowest | taken] == 1) {
                    least = Math.min(least, 1 + fewest[others & ~taken]);
                }
            }
            // one CHOICE and NEVER behind it is NEVER, too
            return Math.min(least, NEVER);
        }

        // -- the search

        private void prepare(Craft craft, Log log) {
            ends = craft.ends;
            seats = craft.seats;
            size = 1 << craft.people;
            waiting = (size - 1) & ~log.gone();
            for (int end = 0; end < MOST_ENDS; end++) {
                arm[end] = craft.armOf(end);
                emptyPull[end] = end == 0 ? arm[end] * craft.list * BOTH_TIMES : 0;
                willing[end] = 0;
                for (int person = 0; person < craft.people; person++) {
                    if (craft.willSit(person, end)) {
                        willing[end] |= waiting & 1 << person;
                    }
                }
            }
        }

        private void weighSets(Craft craft, Log log) {
            for (int set = 0; set < SETS; set++) {
                fewest[set] = NEVER;
            }
            fewest[0] = 0;
            for (int person = 0; person < craft.people; person++) {
                int pounds = craft.weight[person];
                int there = poundsAfter(pounds, log.gains[person], log.minutes);
                int bit = 1 << person;
                for (int set = 0; set < bit && (set | bit) < SETS; set++) {
                    load[set | bit] = load[set] + pounds + there * ARRIVING;
                    fares[set | bit] = fares[set] + craft.fare[person];
                    heads[set | bit] = heads[set] + 1;
                }
            }
        }

        private int pullOf(int end, int set) {
            return emptyPull[end] + arm[end] * load[set];
        }

        /**
         * Tries all crews whose ENDS but the last one pull alike: for a MAKE-WEIGHT that sits
         * at the last END, or for CHOICES.
         */
        private void searchWithLast(int last, boolean making) {
            int first = last == 0 ? 1 : 0;
            int open = willing[first];
            for (int set = open; set >= 0; set = set == 0 ? -1 : (set - 1) & open) {
                if (heads[set] <= seats) {
                    int crew = set << (8 * first);
                    if (ends == 2) {
                        tryLast(last, crew, pullOf(first, set), making);
                    } else {
                        trySecond(last, crew, pullOf(first, set), making);
                    }
                }
            }
        }

        private void trySecond(int last, int crew, int pull, boolean making) {
            int second = last == 2 ? 1 : 2;
            int open = willing[second] & ~members(crew);
            for (int set = open; set >= 0; set = set == 0 ? -1 : (set - 1) & open) {
                if (heads[set] <= seats && pullOf(second, set) == pull) {
                    tryLast(last, crew | set << (8 * second), pull, making);
                }
            }
        }

        private void tryLast(int last, int crew, int pull, boolean making) {
            int others = members(crew);
            int open = willing[last] & ~others;
            for (int set = open; set >= 0; set = set == 0 ? -1 : (set - 1) & open) {
                int lack = pull - pullOf(last, set);
                if (making) {
                    if (lack > 0 && heads[set] < seats) {
                        noteMakeWeight(others | set, lack, arm[last]);
                    }
                } else if (lack == 0 && heads[set] <= seats) {
                    noteChoice(others | set, crew | set << (8 * last));
                }
            }
        }

        private void noteMakeWeight(int set, int lack, int by) {
            int pull = lack & (ARRIVING - 1);
            if (fares[set] <= faresMade[0] || by < 1 || pull * BOTH_TIMES != lack || pull % by != 0) {
                return;
            }
            int pounds = pull / by;
            if (pounds >= 1 && pounds <= MOST_POUNDS) {
                faresMade[pounds] = Math.max(faresMade[pounds], fares[set]);
            }
        }

        private void noteChoice(int set, int crew) {
            if (set == 0) {
                return;
            }
            fewest[set] = 1;
            int score = fares[set] * SCORE_OF_FARE + heads[set];
            if (score > bestScore || score == bestScore && isAhead(crew, bestCrew)) {
                bestScore = score;
                bestCrew = crew;
            }
        }

        /**
         * By the lowest PERSON that does not sit alike in both: its bit is higher at a higher
         * END, and 0 if it is not chosen.
         */
        private static boolean isAhead(int crew, int other) {
            int unlike = crew ^ other;
            int people = unlike | unlike >>> 8 | unlike >>> 16;
            int person = (people & -people) * AT_EACH_END;
            return (crew & person) < (other & person);
        }
    }
}
