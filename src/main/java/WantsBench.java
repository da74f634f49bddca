/**
 * A desk for wants ahead of the program that is to obey them: texts are read into laws over ticks,
 * sets of laws are played as a game against the world, runs are held against them, and they are led to parts.
 */
public final class WantsBench {
    public static final int NONE = -1, FULL = -2, THERE = -3, NOT = -4;

    private static final int MOST_WANTS = 20, MOST_TICKS = 200;
    private static final int LAST_OWNER = 9, LAST_PRICE = 99, LAST_DAY = 9999;
    private static final int MOST_SET = 5, MOST_PEACE = 4;

    private final Tape tape = new Tape();
    private final Law[] laws = new Law[MOST_WANTS];
    private int lawCount;
    private int day;
    private final byte[] run = new byte[MOST_TICKS];
    private int runLength;
    private final Parts parts = new Parts();
    private final Game desk = new Game();
    /** THE PLAY has a game of its own, so that questions asked meanwhile don't disturb it. */
    private final Game stage = new Game();
    private int playSet;
    private int playPlace;
    private final Treaty treaty = new Treaty();
    private int treatySet;

    public WantsBench() {
    }

    public int today(int d) {
        if (d < day || d > LAST_DAY) {
            return NONE;
        }
        int before = day;
        day = d;
        return before;
    }

    public int feed(int n, int v) {
        if (n < 1 || n > 4) {
            return NONE;
        }
        return tape.take(n, v) ? tape.length : FULL;
    }

    public int want(int owner, int worth, int ease) {
        if (!isWithin(owner, 0, LAST_OWNER) || !isWithin(worth, 1, LAST_PRICE) || !isWithin(ease, 1, LAST_PRICE)) {
            return NONE;
        }
        if (lawCount >= MOST_WANTS) {
            return FULL;
        }
        int fault = tape.parse();
        if (fault == Tape.SOUND) {
            laws[lawCount] = new Law(tape, owner, worth, ease, day);
            lawCount++;
        }
        tape.length = 0;
        return fault == Tape.SOUND ? lawCount - 1 : -100 - fault;
    }

    public int giveUp(int want) {
        Law law = lawOf(want);
        if (law == null) {
            return NONE;
        }
        if (law.upDay >= 0) {
            return THERE;
        }
        law.upDay = day;
        return 1;
    }

    public int about(int want, int what) {
        Law law = lawOf(want);
        if (law == null) {
            return NONE;
        }
        switch (what) {
            case 0: return law.sort;
            case 1: return law.n;
            case 2: return law.owner;
            case 3: return law.worth;
            case 4: return law.ease;
            case 5: return law.day;
            case 6: return law.upDay;
            case 7: return Integer.bitCount(law.ledTo);
            case 8: return law.textLength;
            default: return NONE;
        }
    }

    public int holds(int want, int which, int in, int out) {
        Law law = lawOf(want);
        if (law == null || !isBit(which) || !isWithin(in, 0, 7) || !isWithin(out, 0, 7)) {
            return NONE;
        }
        if (which == 1 && law.sort == Law.NEVER) {
            return NONE;
        }
        long expression = which == 0 ? law.first : law.second;
        return bit(Law.has(expression, 8 * in + out));
    }

    public int next(int want, int state, int told) {
        Law law = lawOf(want);
        if (law == null || !isWithin(state, 0, 3) || !isWithin(told, 0, 63)) {
            return NONE;
        }
        int after = law.after(state, told);
        return after == Law.BROKEN ? NOT : after;
    }

    public int can(int set) {
        if (!isSet(set, MOST_SET)) {
            return NONE;
        }
        return bit(isObeyable(set));
    }

    public int safe(int set) {
        if (!isSet(set, MOST_SET)) {
            return NONE;
        }
        lay(desk, set, true);
        desk.solve(true);
        return desk.safePlaces() * placesOfNevers(set);
    }

    public int play(int set) {
        if (!isSet(set, MOST_SET)) {
            return NONE;
        }
        lay(stage, set, false);
        stage.solve(true);
        playSet = set;
        playPlace = Game.FIRST;
        return bit(stage.lostIn(Game.FIRST) == Game.NEVER_LOST);
    }

    public int tick(int in) {
        if (playSet == 0 || !isWithin(in, 0, 7)) {
            return NONE;
        }
        int outs = outsOpen(in);
        if (outs == 0) {
            playSet = 0;
            return NOT;
        }
        int out = leastBit(outs);
        playPlace = stage.placeAfter(playPlace, 8 * in + out);
        return out;
    }

    public int open(int in) {
        if (playSet == 0 || !isWithin(in, 0, 7)) {
            return NONE;
        }
        return Integer.bitCount(outsOpen(in));
    }

    public int state(int want) {
        if (!isWithin(want, 0, MOST_WANTS - 1) || !isIn(playSet, want)) {
            return NONE;
        }
        int membersBefore = Integer.bitCount(playSet & ((1 << want) - 1));
        return Game.stateAt(playPlace, membersBefore);
    }

    public int loses(int set) {
        if (!isSet(set, MOST_SET)) {
            return NONE;
        }
        return isObeyable(set) ? NOT : desk.lostIn(Game.FIRST);
    }

    public int world(int set) {
        if (!isSet(set, MOST_SET)) {
            return NONE;
        }
        return isObeyable(set) ? NOT : desk.winningIn(Game.FIRST);
    }

    public int quarrel(int set) {
        if (!isSet(set, MOST_SET)) {
            return NONE;
        }
        if (isObeyable(set)) {
            return NOT;
        }
        int members = Integer.bitCount(set);
        for (int size = 1; size < members; size++) {
            int part = firstQuarrelOf(set, members, size);
            if (part != 0) {
                return part;
            }
        }
        return set;
    }

    public int follows(int want, int set) {
        Law law = lawOf(want);
        if (law == null || !isSet(set, MOST_SET - 1) || isIn(set, want)) {
            return NONE;
        }
        lay(desk, set, false);
        desk.enter(law, law.n, false);
        return bit(!desk.lastMayBreakAlone());
    }

    public int peace(int set) {
        if (!isSet(set, MOST_PEACE)) {
            return NONE;
        }
        treaty.begin();
        for (int w = 0; w < lawCount; w++) {
            if (isIn(set, w)) {
                treaty.invite(laws[w]);
            }
        }
        treatySet = set;
        treaty.settle(desk, 0, 0);
        return treaty.bestPrice;
    }

    public int made(int want) {
        if (!isWithin(want, 0, MOST_WANTS - 1) || !isIn(treatySet, want)) {
            return NONE;
        }
        return treaty.termOf(Integer.bitCount(treatySet & ((1 << want) - 1)));
    }

    public int told(int in, int out) {
        if (!isWithin(in, 0, 7) || !isWithin(out, 0, 7)) {
            return NONE;
        }
        if (runLength >= MOST_TICKS) {
            return FULL;
        }
        run[runLength] = (byte) (8 * in + out);
        runLength++;
        return runLength;
    }

    public int clear() {
        int before = runLength;
        runLength = 0;
        return before;
    }

    public int held(int want) {
        Law law = lawOf(want);
        return law == null ? NONE : law.firstBroken(run, runLength);
    }

    public int kept(int k) {
        if (!isDay(k)) {
            return NONE;
        }
        int whole = 0;
        for (int w = 0; w < lawCount; w++) {
            if (laws[w].isKnown(k) && laws[w].firstBroken(run, runLength) == NOT) {
                whole++;
            }
        }
        return whole;
    }

    public int part() {
        return parts.add();
    }

    public int use(int part, int other, int is) {
        return isBit(is) ? parts.link(part, other, is) : NONE;
    }

    public int lead(int want, int part, int is) {
        Law law = lawOf(want);
        if (law == null || !parts.has(part) || !isBit(is)) {
            return NONE;
        }
        int before = bit(isIn(law.ledTo, part));
        law.ledTo = withBit(law.ledTo, part, is);
        return before;
    }

    public int gaps(int k) {
        if (!isDay(k)) {
            return NONE;
        }
        int found = 0;
        for (int w = 0; w < lawCount; w++) {
            if (laws[w].isKnown(k) && laws[w].ledTo == 0) {
                found |= 1 << w;
            }
        }
        return found;
    }

    public int bare(int k) {
        if (!isDay(k)) {
            return NONE;
        }
        int covered = 0;
        for (int w = 0; w < lawCount; w++) {
            if (laws[w].isKnown(k)) {
                covered |= laws[w].ledTo;
            }
        }
        return parts.all() & ~parts.withUsed(covered);
    }

    public int reach(int want) {
        Law law = lawOf(want);
        return law == null ? NONE : parts.withUsers(law.ledTo);
    }

    public int wants(int part, int k) {
        if (!parts.has(part) || !isDay(k)) {
            return NONE;
        }
        int found = 0;
        for (int w = 0; w < lawCount; w++) {
            if (laws[w].isKnown(k) && isIn(parts.withUsers(laws[w].ledTo), part)) {
                found |= 1 << w;
            }
        }
        return found;
    }

    public int count(int what) {
        switch (what) {
            case 0: return lawCount;
            case 1: return day;
            case 2: return knownToday();
            case 3: return runLength;
            case 4: return parts.size;
            case 5: return tape.length;
            default: return NONE;
        }
    }

    private int knownToday() {
        int known = 0;
        for (int w = 0; w < lawCount; w++) {
            if (laws[w].isKnown(day)) {
                known++;
            }
        }
        return known;
    }

    private Law lawOf(int want) {
        return isWithin(want, 0, lawCount - 1) ? laws[want] : null;
    }

    private boolean isSet(int set, int most) {
        return set > 0 && set >>> lawCount == 0 && Integer.bitCount(set) <= most;
    }

    private void lay(Game game, int set, boolean allStates) {
        game.begin();
        for (int w = 0; w < lawCount; w++) {
            if (isIn(set, w)) {
                game.enter(laws[w], laws[w].n, allStates);
            }
        }
    }

    private boolean isObeyable(int set) {
        lay(desk, set, false);
        desk.solve(false);
        return desk.lostIn(Game.FIRST) == Game.NEVER_LOST;
    }

    /** The game holds a NEVER in one state, as its state changes nothing; all four of them count as positions. */
    private int placesOfNevers(int set) {
        int places = 1;
        for (int w = 0; w < lawCount; w++) {
            if (isIn(set, w) && laws[w].sort == Law.NEVER) {
                places *= 4;
            }
        }
        return places;
    }

    private int outsOpen(int in) {
        return (int) (stage.openTolds(playPlace) >>> (8 * in)) & 255;
    }

    /** With the lowest want as the highest bit, picks of one size come in the document's order from above. */
    private int firstQuarrelOf(int set, int members, int size) {
        for (int pick = (1 << members) - 1; pick > 0; pick--) {
            if (Integer.bitCount(pick) == size) {
                int part = picked(set, members, pick);
                if (!isObeyable(part)) {
                    return part;
                }
            }
        }
        return 0;
    }

    private int picked(int set, int members, int pick) {
        int part = 0;
        int place = members - 1;
        for (int w = 0; w < lawCount; w++) {
            if (isIn(set, w)) {
                if (isIn(pick, place)) {
                    part |= 1 << w;
                }
                place--;
            }
        }
        return part;
    }

    private static boolean isWithin(int number, int least, int most) {
        return number >= least && number <= most;
    }

    private static boolean isBit(int number) {
        return number == 0 || number == 1;
    }

    private static boolean isDay(int k) {
        return isWithin(k, 0, LAST_DAY);
    }

    private static boolean isIn(int bits, int place) {
        return (bits >>> place & 1) == 1;
    }

    private static int leastBit(int bits) {
        for (int place = 0; place < 32; place++) {
            if (isIn(bits, place)) {
                return place;
            }
        }
        return NONE;
    }

    private static int bit(boolean is) {
        return is ? 1 : 0;
    }

    private static int withBit(int bits, int place, int is) {
        return is == 1 ? bits | 1 << place : bits & ~(1 << place);
    }

    /** THE TAPE and its reader. An expression is read straight into its truth for all 64 tolds, one bit each. */
    private static final class Tape {
        static final int SOUND = -1;

        private static final int MOST_BYTES = 80, DEEPEST = 10, END = -1;
        private static final long A = 0xFF00FF00FF00FF00L, B = 0xFFFF0000FFFF0000L, C = 0xFFFFFFFF00000000L;
        private static final long X = 0xAAAAAAAAAAAAAAAAL, Y = 0xCCCCCCCCCCCCCCCCL, Z = 0xF0F0F0F0F0F0F0F0L;

        private final int[] bytes = new int[MOST_BYTES];
        int length;
        private int place;
        private int fault;
        int sort;
        int n;
        long first;
        long second;

        boolean take(int many, int value) {
            if (length + many > MOST_BYTES) {
                return false;
            }
            for (int i = 0; i < many; i++) {
                bytes[length] = value >>> (8 * i) & 255;
                length++;
            }
            return true;
        }

        /** Reads the whole tape and answers its FAULT, or SOUND. */
        int parse() {
            place = 0;
            fault = SOUND;
            n = 0;
            second = 0;
            if (look() == '!') {
                place++;
                sort = Law.NEVER;
                first = either(0);
            } else {
                first = either(0);
                sort = readSort();
                second = either(0);
                n = readDigit();
            }
            if (look() != END) {
                miss();
            }
            return fault;
        }

        /** Behind a fault nothing is looked at any more, so that the first fault stays and all reading ends. */
        private int look() {
            return fault == SOUND && place < length && place < MOST_BYTES ? bytes[place] : END;
        }

        private long miss() {
            if (fault == SOUND) {
                fault = place;
            }
            return 0;
        }

        private int readSort() {
            int sign = look();
            if (sign != '>' && sign != ';') {
                miss();
                return Law.NEVER;
            }
            place++;
            return sign == '>' ? Law.WITHIN : Law.FOR;
        }

        private int readDigit() {
            int sign = look();
            if (sign < '0' || sign > '3') {
                miss();
                return 0;
            }
            place++;
            return sign - '0';
        }

        private long either(int depth) {
            long truth = both(depth);
            for (int i = 0; i < MOST_BYTES && look() == '|'; i++) {
                place++;
                truth |= both(depth);
            }
            return truth;
        }

        private long both(int depth) {
            long truth = single(depth);
            for (int i = 0; i < MOST_BYTES && look() == '&'; i++) {
                place++;
                truth &= single(depth);
            }
            return truth;
        }

        private long single(int depth) {
            switch (look()) {
                case '~': return depth < DEEPEST ? denied(depth + 1) : miss();
                case '(': return depth < DEEPEST ? bracketed(depth + 1) : miss();
                case '0': return sign(0L);
                case '1': return sign(-1L);
                case 'a': return sign(A);
                case 'b': return sign(B);
                case 'c': return sign(C);
                case 'x': return sign(X);
                case 'y': return sign(Y);
                case 'z': return sign(Z);
                default: return miss();
            }
        }

        private long sign(long truth) {
            place++;
            return truth;
        }

        private long denied(int depth) {
            place++;
            return ~single(depth);
        }

        private long bracketed(int depth) {
            place++;
            long truth = either(depth);
            if (look() == ')') {
                place++;
            } else {
                miss();
            }
            return truth;
        }
    }

    /**
     * A WANT. From each STATE a told breaks it, or turns it to one STATE, or lets it run on to another one:
     * three masks of tolds say all that next(), the run and the game need.
     */
    private static final class Law {
        static final int NEVER = 0, WITHIN = 1, FOR = 2;
        static final int BROKEN = -1;
        static final int KEPT = 0, LEFT = 4;

        private static final int LONGEST = 3;

        final int sort;
        final int n;
        final long first;
        final long second;
        final int textLength;
        final int owner;
        final int worth;
        final int ease;
        final int day;
        int upDay = -1;
        int ledTo;

        Law(Tape tape, int owner, int worth, int ease, int day) {
            this.sort = tape.sort;
            this.n = tape.n;
            this.first = tape.first;
            this.second = tape.second;
            this.textLength = tape.length;
            this.owner = owner;
            this.worth = worth;
            this.ease = ease;
            this.day = day;
        }

        static boolean has(long tolds, int told) {
            return (tolds >>> told & 1) == 1;
        }

        boolean isKnown(int k) {
            return day <= k && (upDay < 0 || upDay > k);
        }

        /** The n is an argument of its own, as an EASED want has another one. */
        long breaking(int state, int length) {
            if (sort == NEVER) {
                return first;
            }
            if (sort == FOR) {
                return state > 0 ? ~second : 0;
            }
            if (state == 0) {
                return length == 0 ? first & ~second : 0;
            }
            return state == 1 ? ~second : 0;
        }

        long turning(int state) {
            if (sort == NEVER) {
                return 0;
            }
            if (sort == FOR) {
                return first;
            }
            return state == 0 ? first & ~second : second;
        }

        int turned(int state, int length) {
            if (sort == NEVER) {
                return state;
            }
            if (sort == FOR) {
                return Math.max(state - 1, length);
            }
            return state == 0 ? length : 0;
        }

        int runOn(int state) {
            return sort == NEVER ? state : Math.max(state - 1, 0);
        }

        int after(int state, int told) {
            if (has(breaking(state, n), told)) {
                return BROKEN;
            }
            return has(turning(state), told) ? turned(state, n) : runOn(state);
        }

        int firstBroken(byte[] run, int ticks) {
            int state = 0;
            for (int t = 0; t < ticks && t < run.length; t++) {
                state = after(state, run[t]);
                if (state == BROKEN) {
                    return t;
                }
            }
            return NOT;
        }

        boolean allows(int term) {
            if (term == KEPT || term == LEFT) {
                return true;
            }
            return sort != NEVER && eased(term) >= 0 && eased(term) <= LONGEST;
        }

        int eased(int term) {
            return sort == WITHIN ? n + term : n - term;
        }

        int priceOf(int term) {
            return term == LEFT ? worth : ease * term;
        }
    }

    /**
     * The game of a SET against the world. A place is a POSITION: two bits of STATE for each member.
     * What the thing may say is a mask of tolds, so that the outs for an in are one byte of it.
     */
    private static final class Game {
        static final int FIRST = 0, NEVER_LOST = 0;

        private static final int MEMBERS = 5, STATES = 4, PLACES = 1024, WAYS = 32;
        private static final int ANY_ROUND = PLACES + 2;

        private int size;
        /** By member and state: 4 times the one and the other. */
        private final long[] breaking = new long[MEMBERS * STATES];
        private final long[] turning = new long[MEMBERS * STATES];
        private final int[] turned = new int[MEMBERS * STATES];
        private final int[] runOn = new int[MEMBERS * STATES];
        /** The places that are not lost as yet; for lastMayBreakAlone the places that have been reached. */
        private final int[] row = new int[PLACES];
        private int rowLength;
        /** The round in which a place was lost; for lastMayBreakAlone 1 where a place has been reached. */
        private final int[] lost = new int[PLACES];
        private final long[] wayTolds = new long[WAYS];
        private final int[] wayEnds = new int[WAYS];

        void begin() {
            size = 0;
            row[0] = FIRST;
            rowLength = 1;
        }

        /** From the first position no STATE above n is ever reached: those places are made only if all are asked. */
        void enter(Law law, int n, boolean allStates) {
            if (size >= MEMBERS) {
                return;
            }
            for (int s = 0; s < STATES; s++) {
                int at = STATES * size + s;
                breaking[at] = law.breaking(s, n);
                turning[at] = law.turning(s);
                turned[at] = law.turned(s, n) << (2 * size);
                runOn[at] = law.runOn(s) << (2 * size);
            }
            int highest = law.sort == Law.NEVER ? 0 : allStates ? STATES - 1 : n;
            widen(highest);
            size++;
        }

        private void widen(int highest) {
            int before = rowLength;
            for (int s = 1; s <= highest && s < STATES; s++) {
                for (int i = 0; i < before && rowLength < PLACES; i++) {
                    row[rowLength] = row[i] | s << (2 * size);
                    rowLength++;
                }
            }
        }

        static int stateAt(int place, int member) {
            return place >>> (2 * member) & 3;
        }

        /** Finds the lost places round by round; a question about the first place alone ends with its loss. */
        void solve(boolean whole) {
            for (int i = 0; i < rowLength; i++) {
                lost[row[i]] = NEVER_LOST;
            }
            for (int round = 1; round <= PLACES; round++) {
                boolean found = loseSome(round);
                if (!found || !whole && lost[FIRST] != NEVER_LOST) {
                    return;
                }
            }
        }

        private boolean loseSome(int round) {
            int left = 0;
            for (int i = 0; i < rowLength; i++) {
                int place = row[i];
                long tolds = round == 1 ? unbroken(place, size) : openBefore(place, round);
                if (firstWithoutOut(tolds) < 8) {
                    lost[place] = round;
                } else {
                    row[left] = place;
                    left++;
                }
            }
            boolean found = left < rowLength;
            rowLength = left;
            return found;
        }

        int safePlaces() {
            return rowLength;
        }

        int lostIn(int place) {
            return isPlace(place) ? lost[place] : NEVER_LOST;
        }

        int winningIn(int place) {
            return isPlace(place) ? firstWithoutOut(openBefore(place, lost[place])) : 8;
        }

        long openTolds(int place) {
            return isPlace(place) ? openBefore(place, ANY_ROUND) : 0;
        }

        int placeAfter(int place, int told) {
            int end = 0;
            for (int m = 0; m < size; m++) {
                int at = STATES * m + (place >>> (2 * m) & 3);
                end |= Law.has(turning[at], told) ? turned[at] : runOn[at];
            }
            return end;
        }

        /** Whether some row of tolds breaks the last member in a tick up to which no other one is broken. */
        boolean lastMayBreakAlone() {
            for (int i = 0; i < rowLength; i++) {
                lost[row[i]] = 0;
            }
            row[0] = FIRST;
            rowLength = 1;
            lost[FIRST] = 1;
            for (int i = 0; i < rowLength && i < PLACES; i++) {
                if (lastBreaksAlone(row[i])) {
                    return true;
                }
                reachFrom(row[i]);
            }
            return false;
        }

        private boolean lastBreaksAlone(int place) {
            if (size == 0) {
                return false;
            }
            int last = size - 1;
            return (breaking[STATES * last + stateAt(place, last)] & unbroken(place, last)) != 0;
        }

        private void reachFrom(int place) {
            int ways = split(place, unbroken(place, size));
            for (int i = 0; i < ways; i++) {
                int end = wayEnds[i];
                if (wayTolds[i] != 0 && lost[end] == 0 && rowLength < PLACES) {
                    lost[end] = 1;
                    row[rowLength] = end;
                    rowLength++;
                }
            }
        }

        private static boolean isPlace(int place) {
            return place >= 0 && place < PLACES;
        }

        private static int firstWithoutOut(long tolds) {
            for (int in = 0; in < 8; in++) {
                if ((tolds >>> (8 * in) & 255) == 0) {
                    return in;
                }
            }
            return 8;
        }

        private long unbroken(int place, int members) {
            long tolds = -1L;
            for (int m = 0; m < members && m < MEMBERS; m++) {
                tolds &= ~breaking[STATES * m + (place >>> (2 * m) & 3)];
            }
            return tolds;
        }

        /** The tolds that break none and lead to a place not lost in an earlier round. */
        private long openBefore(int place, int round) {
            int ways = split(place, unbroken(place, size));
            long tolds = 0;
            for (int i = 0; i < ways; i++) {
                int end = lost[wayEnds[i]];
                if (end == NEVER_LOST || end >= round) {
                    tolds |= wayTolds[i];
                }
            }
            return tolds;
        }

        /** Sorts tolds by the place they lead to; each member parts every way in two at most. */
        private int split(int place, long tolds) {
            wayTolds[0] = tolds;
            wayEnds[0] = 0;
            int ways = 1;
            for (int m = 0; m < size; m++) {
                int at = STATES * m + (place >>> (2 * m) & 3);
                int before = ways;
                for (int i = 0; i < before; i++) {
                    long turn = wayTolds[i] & turning[at];
                    long rest = wayTolds[i] & ~turning[at];
                    if (turn != 0 && rest != 0 && ways < WAYS) {
                        wayTolds[ways] = turn;
                        wayEnds[ways] = wayEnds[i] | turned[at];
                        ways++;
                    }
                    wayTolds[i] = rest != 0 ? rest : turn;
                    wayEnds[i] |= rest != 0 ? runOn[at] : turned[at];
                }
            }
            return ways;
        }
    }

    /** PEACE: terms are tried in the document's order, so that the first of the cheapest ones stays. */
    private static final class Treaty {
        /** Above any price: all sides left cost less. */
        private static final int NO_PRICE = 1000;
        private static final int SIDES = 4;

        private final Law[] sides = new Law[SIDES];
        private final int[] terms = new int[SIDES];
        private final int[] best = new int[SIDES];
        private int size;
        int bestPrice;

        void begin() {
            size = 0;
            bestPrice = NO_PRICE;
        }

        void invite(Law law) {
            if (size < SIDES) {
                sides[size] = law;
                size++;
            }
        }

        int termOf(int side) {
            return side >= 0 && side < size ? best[side] : NONE;
        }

        private void settle(Game game, int side, int price) {
            if (side >= size || side >= SIDES) {
                System.arraycopy(terms, 0, best, 0, SIDES);
                bestPrice = price;
                return;
            }
            for (int term = Law.KEPT; term <= Law.LEFT; term++) {
                offer(game, side, term, price);
            }
        }

        /** What the first sides can't obey alone, no terms of the others mend: only what stands is gone on with. */
        private void offer(Game game, int side, int term, int price) {
            int cost = price + sides[side].priceOf(term);
            if (cost >= bestPrice || !sides[side].allows(term)) {
                return;
            }
            terms[side] = term;
            if (term == Law.LEFT || stands(game, side + 1)) {
                settle(game, side + 1, cost);
            }
        }

        private boolean stands(Game game, int count) {
            game.begin();
            for (int i = 0; i < count && i < SIDES; i++) {
                if (terms[i] != Law.LEFT) {
                    game.enter(sides[i], sides[i].eased(terms[i]), false);
                }
            }
            game.solve(false);
            return game.lostIn(Game.FIRST) == Game.NEVER_LOST;
        }
    }

    /** PARTS: a user always has the greater number, so one pass up or down finds all that follows. */
    private static final class Parts {
        private static final int MOST_PARTS = 20;

        private final int[] uses = new int[MOST_PARTS];
        int size;

        int add() {
            if (size >= MOST_PARTS) {
                return FULL;
            }
            size++;
            return size - 1;
        }

        boolean has(int number) {
            return number >= 0 && number < size;
        }

        int all() {
            return (1 << size) - 1;
        }

        int link(int user, int used, int is) {
            if (!has(user) || !has(used) || used >= user) {
                return NONE;
            }
            int before = bit(isIn(uses[user], used));
            uses[user] = withBit(uses[user], used, is);
            return before;
        }

        int withUsers(int bits) {
            int found = bits;
            for (int p = 0; p < size; p++) {
                if ((uses[p] & found) != 0) {
                    found |= 1 << p;
                }
            }
            return found;
        }

        int withUsed(int bits) {
            int found = bits;
            for (int p = size - 1; p >= 0; p--) {
                if (isIn(found, p)) {
                    found |= uses[p];
                }
            }
            return found;
        }
    }
}
