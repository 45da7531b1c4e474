import java.util.Arrays;

/**
 * A land in which each does as most of those he meets did, or what pays best, and now and then
 * somebody slips. The document's promises say what each call answers.
 *
 * <p>All rows are made once, with the object, and used again: no call makes anything.
 */
public final class CustomValley {
    public static final int NONE = -1;
    public static final int RANGE = -2;
    public static final int FULL = -3;
    public static final int STATE = -4;

    private static final int MOST_BYTES = 700;
    private static final int BYTES_FED = 20;
    private static final int MOST_PEOPLE = 10;
    private static final int MOST_HABITS = 4;
    /** Codes are all ways to give habits to people; those that the keepers allow are STATES. */
    private static final int MOST_CODES = 1024;
    private static final int MOST_ROOTS = 12;
    private static final int MOST_TRIED = 6;
    private static final int MOST_GIFT = 99;
    private static final int MOST_ROUNDS = 400;
    private static final int MOST_STEPS = 5000;
    private static final int LEAST_ODDS = 2;
    private static final int MOST_ODDS = 1000;
    private static final int MOST_JUDGED = 120;
    private static final int MOST_SEEN = 20;
    private static final int LAST_STEP = 999;
    private static final int LAST_DAY = 999;
    private static final int BEST = 0;
    private static final int MOST = 1;
    private static final int COPY = 2;
    /** Ten slips that cost three each lead from any STATE to any. */
    private static final int MOST_COST = 30;
    private static final int FAR = 1000000;
    private static final int UNKNOWN = -9;
    private static final int ALL_PARTS = 1000000000;

    private final Tape tape;
    private final Reader reader;
    private final Land land;
    /** The valley with a change that a question supposes; never what is told. */
    private final Land trial;
    private final Search search;
    /** Holds the costs to come to the REST aim; kept, as many calls ask about one REST. */
    private final Search homeward;
    private final Trees trees;
    private final Flow chances;
    private final Walk lastRun;
    private final Walk lastJudged;
    private final Seen seen;
    private final int[] wayStates;
    private final int[] boundSets;
    private final int[] leastGifts;
    private int wayMoves;
    private int aim;
    private int winnerBits;
    private int shortRest;

    public CustomValley() {
        tape = new Tape();
        reader = new Reader(tape);
        land = new Land();
        trial = new Land();
        search = new Search();
        homeward = new Search();
        trees = new Trees();
        chances = new Flow();
        lastRun = new Walk();
        lastJudged = new Walk();
        seen = new Seen();
        wayStates = new int[MOST_CODES];
        boundSets = new int[MOST_HABITS];
        leastGifts = new int[MOST_HABITS];
        forget();
    }

    public int feed(int a, int b, int c, int d, int e) {
        if (tape.length > MOST_BYTES - BYTES_FED) {
            return FULL;
        }
        tape.add(a);
        tape.add(b);
        tape.add(c);
        tape.add(d);
        tape.add(e);
        return tape.length;
    }

    public int end(int n) {
        if (n < 0 || n > tape.length) {
            return NONE;
        }
        tape.length = n;
        return n;
    }

    // ---- the valley

    public int valley() {
        reader.readValley();
        tape.length = 0;
        if (reader.kind != 0) {
            return NONE;
        }
        land.valley.copyFrom(reader.draft);
        land.change();
        seen.clear();
        forget();
        return land.valley.clauses;
    }

    public int fault(int what) {
        if (what == 0) {
            return reader.kind;
        }
        return what == 1 ? reader.place : NONE;
    }

    public int told(int what) {
        Valley v = land.valley;
        switch (what) {
            case 0:
                return v.people;
            case 1:
                return v.habits;
            case 2:
                return v.free;
            case 3:
                return v.answer;
            case 4:
                return v.stays ? 1 : 0;
            case 5:
                return v.states;
            default:
                return toldOfOne(v, what);
        }
    }

    public int habit(int s, int p) {
        Valley v = land.valley;
        return v.isState(s) && v.isPerson(p) ? v.habitIn(s, p) : RANGE;
    }

    public int worth(int s, int p) {
        Valley v = land.valley;
        return v.isState(s) && v.isPerson(p) ? v.worthIn(s, p) : RANGE;
    }

    public int answers(int s, int p) {
        if (!land.valley.isState(s) || !land.valley.isPerson(p)) {
            return RANGE;
        }
        land.ready();
        return land.replies.bits(s, p);
    }

    public int move(int s, int p, int habit) {
        Valley v = land.valley;
        if (!v.isState(s) || !v.isPerson(p) || !v.isHabit(habit)) {
            return RANGE;
        }
        return v.isFree(p) ? v.with(s, p, habit) : NONE;
    }

    // ---- rests

    public int rests() {
        land.ready();
        return land.rests.number;
    }

    public int rest(int k, int what) {
        land.ready();
        Rests rests = land.rests;
        if (!rests.has(k)) {
            return NONE;
        }
        switch (what) {
            case 0:
                return rests.least(k);
            case 1:
                return rests.size(k);
            case 2:
                return rests.basins[k];
            default:
                boolean member = what >= 10 && what - 10 < rests.size(k);
                return member ? rests.members[rests.starts[k] + what - 10] : NONE;
        }
    }

    public int restOf(int s) {
        if (!land.valley.isState(s)) {
            return RANGE;
        }
        land.ready();
        return land.rests.home[s];
    }

    public int comes(int s, int k) {
        land.ready();
        if (!land.valley.isState(s) || !land.rests.has(k)) {
            return RANGE;
        }
        aimAt(k);
        return homeward.cost[s] == 0 ? 1 : 0;
    }

    public int fewest(int s, int t) {
        if (!land.valley.isState(s) || !land.valley.isState(t)) {
            return RANGE;
        }
        land.ready();
        int cost = search.toState(land, t, s);
        if (cost >= FAR) {
            return NONE;
        }
        search.countMoves(land, t, s);
        wayMoves = search.trace(land, s, wayStates);
        return cost;
    }

    public int way(int i) {
        if (i == -1) {
            return wayMoves;
        }
        return i >= 0 && i <= wayMoves && i < MOST_CODES ? wayStates[i] : NONE;
    }

    public int between(int a, int b) {
        land.ready();
        if (!land.rests.has(a) || !land.rests.has(b)) {
            return RANGE;
        }
        aimAt(b);
        return homeward.cost[land.rests.least(a)];
    }

    // ---- who wins

    public int tree(int k) {
        land.ready();
        if (!land.rests.has(k)) {
            return RANGE;
        }
        if (land.rests.number > MOST_ROOTS) {
            return FULL;
        }
        land.measure(search);
        return trees.grow(land, k);
    }

    public int treeTo(int i) {
        return trees.goesOn(i);
    }

    public int winners() {
        land.ready();
        if (land.rests.number > MOST_ROOTS) {
            return FULL;
        }
        if (winnerBits == UNKNOWN) {
            winnerBits = winnersOf(land);
        }
        return winnerBits;
    }

    public int radius(int k) {
        land.ready();
        return land.rests.has(k) ? search.leave(land, k) : RANGE;
    }

    public int coradius(int k) {
        land.ready();
        return land.rests.has(k) ? farthest(k) : RANGE;
    }

    public int shortly() {
        land.ready();
        if (shortRest == UNKNOWN) {
            shortRest = findShort();
        }
        return shortRest;
    }

    public int carried(int h, int g) {
        Valley v = land.valley;
        if (!v.isHabit(h) || !v.isHabit(g)) {
            return RANGE;
        }
        land.ready();
        int goal = v.allWith(v.list[0], v.free, h);
        int home = land.rests.home[goal];
        if (home < 0 || land.rests.size(home) != 1) {
            return NONE;
        }
        int others = v.allWith(goal, v.free, g);
        int found = v.free;
        for (int set = 0; set < 1 << v.people; set++) {
            boolean fewer = Integer.bitCount(set) < Integer.bitCount(found);
            if (fewer && (set & ~v.free) == 0 && land.rests.only[v.allWith(others, set, h)] == home) {
                found = set;
            }
        }
        return found;
    }

    public int bound(int h) {
        if (!land.valley.isHabit(h)) {
            return RANGE;
        }
        if (land.valley.people > MOST_TRIED) {
            return FULL;
        }
        if (boundSets[h] != UNKNOWN) {
            return boundSets[h];
        }
        int found = NONE;
        for (int set = 0; set < 1 << land.valley.people; set++) {
            boolean fewer = found == NONE || Integer.bitCount(set) < Integer.bitCount(found);
            if (fewer && (set & ~land.valley.free) == 0) {
                bindInTrial(set, h);
                found = winsAlone(h) ? set : found;
            }
        }
        boundSets[h] = found;
        return found;
    }

    public int gift(int h) {
        if (!land.valley.isHabit(h)) {
            return RANGE;
        }
        if (land.valley.people > MOST_TRIED) {
            return FULL;
        }
        if (leastGifts[h] != UNKNOWN) {
            return leastGifts[h];
        }
        int found = NONE;
        for (int more = 0; more <= MOST_GIFT && found == NONE; more++) {
            boolean changed = giveInTrial(h, more);
            // with the same ANSWERS as with the gift before it is no more so than it was then
            if ((more == 0 || changed) && winsAlone(h)) {
                found = more;
            }
        }
        leastGifts[h] = found;
        return found;
    }

    // ---- chances, runs, rows

    public int flow(int s, int rounds, int q) {
        if (!land.valley.isState(s) || rounds < 0 || rounds > MOST_ROUNDS || !areOdds(q)) {
            return RANGE;
        }
        land.ready();
        chances.pour(land, s, rounds, q);
        return 1;
    }

    public int parts(int s) {
        return chances.known && land.valley.isState(s) ? chances.held[s] : NONE;
    }

    public int partsOf(int k) {
        land.ready();
        if (!chances.known || !land.rests.has(k)) {
            return NONE;
        }
        int sum = 0;
        for (int i = land.rests.starts[k]; i < land.rests.starts[k + 1]; i++) {
            sum += chances.held[land.rests.members[i]];
        }
        return sum;
    }

    public int run(int s, int seed, int steps, int q) {
        if (!land.valley.isState(s) || seed < 0 || steps < 1 || steps > MOST_STEPS || !areOdds(q)) {
            return RANGE;
        }
        if (land.valley.freeCount == 0) {
            return STATE;
        }
        land.ready();
        lastRun.wander(land, s, seed, steps, q);
        return lastRun.state;
    }

    public int ran(int what) {
        if (!lastRun.known) {
            return NONE;
        }
        switch (what) {
            case 0:
                return lastRun.slips;
            case 1:
                return lastRun.cost;
            case 2:
                return lastRun.rested;
            default:
                boolean person = what >= 10 && land.valley.isPerson(what - 10);
                return person ? lastRun.moves[what - 10] : NONE;
        }
    }

    public int judge(int s) {
        int length = tape.length;
        tape.length = 0;
        if (!land.valley.isState(s)) {
            return RANGE;
        }
        if (length % 2 != 0 || length > MOST_JUDGED) {
            return NONE;
        }
        land.ready();
        return lastJudged.follow(land, s, tape, length / 2);
    }

    public int judged(int what) {
        if (!lastJudged.known) {
            return NONE;
        }
        switch (what) {
            case 0:
                return lastJudged.slips;
            case 1:
                return lastJudged.cost;
            case 2:
                return lastJudged.state;
            case 3:
                return lastJudged.whole ? 1 : 0;
            default:
                return NONE;
        }
    }

    // ---- what was seen

    public int see(int told, int day, int s) {
        if (!seen.mayTell(told) || !seen.mayDawn(day) || !land.valley.isState(s)) {
            return RANGE;
        }
        return seen.number < MOST_SEEN ? seen.add(told, day, s) : FULL;
    }

    public int right(int told, int k, int s) {
        if (!seen.mayTell(told) || !seen.has(k) || !land.valley.isState(s)) {
            return RANGE;
        }
        return seen.changes < MOST_SEEN ? seen.change(told, k, s) : FULL;
    }

    public int explained(int known, int answer) {
        if (known < 0 || known > LAST_STEP || answer < BEST || answer > COPY) {
            return RANGE;
        }
        int sum = slipsSeen(known, answer);
        return sum < FAR ? sum : NONE;
    }

    public int likeliest(int known) {
        if (known < 0 || known > LAST_STEP) {
            return RANGE;
        }
        int found = NONE;
        int least = FAR;
        for (int answer = BEST; answer <= COPY; answer++) {
            int sum = slipsSeen(known, answer);
            if (sum < least) {
                least = sum;
                found = answer;
            }
        }
        return found;
    }

    public int count(int what) {
        switch (what) {
            case 0:
                return land.valley.clauses;
            case 1:
                return seen.number;
            case 2:
                return seen.changes;
            case 3:
                return tape.length;
            default:
                return NONE;
        }
    }

    /** What was told of the valley before is no more; what judge() told stays, as the document says. */
    private void forget() {
        wayMoves = NONE;
        aim = NONE;
        winnerBits = UNKNOWN;
        shortRest = UNKNOWN;
        Arrays.fill(boundSets, UNKNOWN);
        Arrays.fill(leastGifts, UNKNOWN);
        trees.size = 0;
        chances.known = false;
        lastRun.known = false;
    }

    private static int toldOfOne(Valley v, int what) {
        if (what >= 10 && v.isHabit(what - 10)) {
            return v.slips[what - 10];
        }
        if (what >= 20 && v.isPerson(what - 20)) {
            return v.meets[what - 20];
        }
        if (what >= 60) {
            return v.isPerson(what - 60) ? v.keeps[what - 60] : NONE;
        }
        if (what < 40) {
            return NONE;
        }
        int own = (what - 40) / MOST_HABITS;
        int other = (what - 40) % MOST_HABITS;
        return v.isHabit(own) && v.isHabit(other) ? v.gets[own * MOST_HABITS + other] : NONE;
    }

    private static void fillTo(int[] row, int end, int value) {
        for (int i = 0; i < end && i < row.length; i++) {
            row[i] = value;
        }
    }

    private static boolean areOdds(int q) {
        return q >= LEAST_ODDS && q <= MOST_ODDS;
    }

    private void aimAt(int k) {
        if (aim != k) {
            homeward.toRest(land, k);
            aim = k;
        }
    }

    private int farthest(int k) {
        aimAt(k);
        int greatest = 0;
        for (int i = 0; i < land.valley.states; i++) {
            greatest = Math.max(greatest, homeward.cost[land.valley.list[i]]);
        }
        return greatest;
    }

    /**
     * To come from another REST one must leave its BASIN, so a CORADIUS is never below the RADIUS of
     * another REST: only the one REST with the greatest RADIUS can be SHORT.
     */
    private int findShort() {
        int greatest = 0;
        int found = NONE;
        for (int k = 0; k < land.rests.number; k++) {
            int out = search.leave(land, k);
            if (out == NONE) {
                return k;
            }
            if (out > greatest) {
                greatest = out;
                found = k;
            }
        }
        return found != NONE && greatest > farthest(found) ? found : NONE;
    }

    private int winnersOf(Land one) {
        one.measure(search);
        int least = FAR;
        int bits = 0;
        for (int k = 0; k < one.rests.number && k < MOST_ROOTS; k++) {
            int sum = trees.leastSum(one, k);
            if (sum < least) {
                least = sum;
                bits = 0;
            }
            if (sum == least) {
                bits |= 1 << k;
            }
        }
        return bits;
    }

    private void bindInTrial(int set, int h) {
        Valley v = trial.valley;
        v.copyFrom(land.valley);
        for (int p = 0; p < v.people; p++) {
            if ((set >> p & 1) != 0) {
                v.keeps[p] = h;
            }
        }
        v.settle();
        trial.change();
        trial.reply();
    }

    /** Whether there are other ANSWERS than the trial had before. */
    private boolean giveInTrial(int h, int more) {
        Valley v = trial.valley;
        if (more == 0) {
            v.copyFrom(land.valley);
        }
        for (int j = 0; j < v.habits; j++) {
            v.gets[h * MOST_HABITS + j] = land.valley.gets[h * MOST_HABITS + j] + more;
        }
        trial.change();
        return trial.reply();
    }

    /** Whether in the trial no STATE but the one in which all who are FREE in the land have h wins. */
    private boolean winsAlone(int h) {
        Valley v = trial.valley;
        int goal = v.allWith(v.list[0], land.valley.free, h);
        for (int p = 0; p < v.people; p++) {
            if (v.isFree(p) && trial.replies.bits(goal, p) != 1 << h) {
                return false;
            }
        }
        trial.ready();
        int home = trial.rests.home[goal];
        if (home < 0 || trial.rests.number > MOST_ROOTS) {
            return false;
        }
        return trial.rests.number == 1 || winnersOf(trial) == 1 << home;
    }

    /** FAR if one can't come to the next. */
    private int slipsSeen(int known, int answer) {
        Land by = land;
        if (answer != land.valley.answer) {
            trial.valley.copyFrom(land.valley);
            trial.valley.answer = answer;
            trial.change();
            by = trial;
        }
        by.reply();
        int sum = 0;
        int last = NONE;
        for (int i = 0; i < seen.number; i++) {
            int next = seen.knownAt(known, i);
            if (next != NONE && last != NONE) {
                sum += search.toState(by, next, last);
            }
            last = next == NONE ? last : next;
        }
        return Math.min(sum, FAR);
    }

    private static final class Tape {
        final byte[] bytes = new byte[MOST_BYTES];
        int length;

        void add(int four) {
            for (int shift = 24; shift >= 0; shift -= 8) {
                if (length < MOST_BYTES) {
                    bytes[length] = (byte) (four >> shift);
                    length++;
                }
            }
        }

        int at(int i) {
            return i >= 0 && i < length ? bytes[i] & 255 : NONE;
        }
    }

    /** What a text tells, and what follows from it at once. */
    private static final class Valley {
        int people;
        int habits;
        int answer;
        boolean stays;
        int clauses;
        final int[] gets = new int[MOST_HABITS * MOST_HABITS];
        final int[] slips = new int[MOST_HABITS];
        final int[] meets = new int[MOST_PEOPLE];
        final int[] keeps = new int[MOST_PEOPLE];
        int free;
        int freeCount;
        int codes;
        int states;
        /** MOVES are numbered: for each who is FREE each HABIT. */
        int moves;
        final int[] mover = new int[MOST_PEOPLE * MOST_HABITS];
        final int[] taken = new int[MOST_PEOPLE * MOST_HABITS];
        final int[] powers = new int[MOST_PEOPLE + 1];
        final int[] list = new int[MOST_CODES];

        Valley() {
            clear();
            meetAll();
            settle();
        }

        void clear() {
            people = 4;
            habits = 2;
            answer = BEST;
            stays = false;
            clauses = 0;
            Arrays.fill(gets, 0);
            for (int i = 0; i < MOST_HABITS; i++) {
                gets[i * MOST_HABITS + i] = 1;
            }
            Arrays.fill(slips, 1);
            Arrays.fill(meets, 0);
            Arrays.fill(keeps, NONE);
        }

        void meetAll() {
            for (int p = 0; p < people; p++) {
                meets[p] = ((1 << people) - 1) & ~(1 << p);
            }
        }

        void copyFrom(Valley other) {
            people = other.people;
            habits = other.habits;
            answer = other.answer;
            stays = other.stays;
            clauses = other.clauses;
            System.arraycopy(other.gets, 0, gets, 0, gets.length);
            System.arraycopy(other.slips, 0, slips, 0, slips.length);
            System.arraycopy(other.meets, 0, meets, 0, meets.length);
            System.arraycopy(other.keeps, 0, keeps, 0, keeps.length);
            settle();
        }

        void settle() {
            free = 0;
            moves = 0;
            powers[0] = 1;
            for (int p = 0; p < people; p++) {
                powers[p + 1] = powers[p] * habits;
                if (keeps[p] == NONE) {
                    free |= 1 << p;
                    addMoves(p);
                }
            }
            freeCount = Integer.bitCount(free);
            codes = Math.min(powers[people], MOST_CODES);
            states = 0;
            for (int s = 0; s < codes; s++) {
                if (isState(s)) {
                    list[states] = s;
                    states++;
                }
            }
        }

        void addMoves(int p) {
            for (int h = 0; h < habits; h++) {
                mover[moves] = p;
                taken[moves] = h;
                moves++;
            }
        }

        boolean isState(int s) {
            if (s < 0 || s >= codes) {
                return false;
            }
            for (int p = 0; p < people; p++) {
                if (keeps[p] != NONE && keeps[p] != habitIn(s, p)) {
                    return false;
                }
            }
            return true;
        }

        boolean isPerson(int p) {
            return p >= 0 && p < people;
        }

        boolean isHabit(int h) {
            return h >= 0 && h < habits;
        }

        boolean isFree(int p) {
            return (free >> p & 1) != 0;
        }

        int habitIn(int s, int p) {
            return s / powers[p] % habits;
        }

        int worthIn(int s, int p) {
            int sum = 0;
            int own = habitIn(s, p);
            for (int other = 0; other < people; other++) {
                if ((meets[p] >> other & 1) != 0) {
                    sum += gets[own * MOST_HABITS + habitIn(s, other)];
                }
            }
            return sum;
        }

        int with(int s, int p, int h) {
            return s + (h - habitIn(s, p)) * powers[p];
        }

        int allWith(int s, int set, int h) {
            int changed = s;
            for (int p = 0; p < people; p++) {
                if ((set >> p & 1) != 0) {
                    changed = with(changed, p, h);
                }
            }
            return changed;
        }
    }

    /** Reads the tape's tokens one by one into a draft, up to the first FAULT. */
    private static final class Reader {
        private static final int SYNTAX = 1;
        private static final int OUT = 2;
        private static final int TWICE = 3;
        private static final int LATE = 4;

        private static final int LAST = 0;
        private static final int WORD = 1;
        private static final int NUMBER = 2;
        private static final int SEMICOLON = 3;
        private static final int NO_TOKEN = 4;

        private static final int PEOPLE_TOLD = 1;
        private static final int HABITS_TOLD = 2;
        private static final int ANSWER_TOLD = 4;
        private static final int STAYS_TOLD = 8;
        private static final int MEETS_TOLD = 16;

        final Tape tape;
        final Valley draft = new Valley();
        int kind;
        int place = NONE;
        int at;
        int token;
        int start;
        int number;
        int toldOnce;
        int worthsTold;
        int slipsTold;
        boolean sizesClosed;

        Reader(Tape tape) {
            this.tape = tape;
        }

        void readValley() {
            begin();
            nextToken();
            for (int i = 0; i < MOST_BYTES && kind == 0 && token != LAST; i++) {
                readClause();
                draft.clauses++;
                nextToken();
            }
            if (kind == 0) {
                if ((toldOnce & MEETS_TOLD) == 0) {
                    draft.meetAll();
                }
                draft.settle();
            }
        }

        void begin() {
            draft.clear();
            kind = 0;
            place = NONE;
            at = 0;
            toldOnce = 0;
            worthsTold = 0;
            slipsTold = 0;
            sizesClosed = false;
        }

        /** Of one TOKEN the kinds are tried from the least on, so the first fault that is come to stays. */
        void fail(int why) {
            if (kind == 0) {
                kind = why;
                place = start;
            }
        }

        void nextToken() {
            if (kind != 0) {
                return;
            }
            while (at < tape.length && isBlank(tape.at(at))) {
                at++;
            }
            start = at;
            int first = tape.at(at);
            if (first == NONE) {
                token = LAST;
            } else if (isLetter(first)) {
                readWord();
            } else if (isDigit(first)) {
                readNumber();
            } else {
                token = first == ';' ? SEMICOLON : NO_TOKEN;
                at++;
            }
        }

        void readWord() {
            while (at < tape.length && isLetter(tape.at(at))) {
                at++;
            }
            token = at - start <= 8 ? WORD : NO_TOKEN;
        }

        void readNumber() {
            number = 0;
            while (at < tape.length && isDigit(tape.at(at))) {
                if (at - start < 4) {
                    number = number * 10 + tape.at(at) - '0';
                }
                at++;
            }
            token = at - start <= 4 ? NUMBER : NO_TOKEN;
        }

        static boolean isBlank(int b) {
            return b == 32 || b == 10;
        }

        static boolean isLetter(int b) {
            return b >= 'a' && b <= 'z';
        }

        static boolean isDigit(int b) {
            return b >= '0' && b <= '9';
        }

        boolean isWord(String word) {
            if (token != WORD || at - start != word.length()) {
                return false;
            }
            for (int i = 0; i < word.length(); i++) {
                if (tape.at(start + i) != word.charAt(i)) {
                    return false;
                }
            }
            return true;
        }

        void readClause() {
            if (isWord("people")) {
                readPeople();
            } else if (isWord("habits")) {
                readHabits();
            } else if (isWord("worth")) {
                readWorth();
            } else if (isWord("meets")) {
                readMeets();
                return;
            } else if (isWord("answer")) {
                readAnswer();
            } else if (isWord("stays")) {
                tellOnce(STAYS_TOLD);
                draft.stays = true;
            } else if (isWord("keeps")) {
                readKeeps();
            } else if (isWord("slip")) {
                readSlip();
            } else {
                fail(SYNTAX);
            }
            nextToken();
            endClause();
        }

        void endClause() {
            if (token != SEMICOLON) {
                fail(SYNTAX);
            }
        }

        void tellOnce(int which) {
            if ((toldOnce & which) != 0) {
                fail(TWICE);
            }
            toldOnce |= which;
        }

        /** The TOKEN read last must be a number within the bounds. */
        int numberWithin(int low, int high) {
            if (token != NUMBER) {
                fail(SYNTAX);
            } else if (number < low || number > high) {
                fail(OUT);
            }
            return kind == 0 ? number : low;
        }

        int nextWithin(int low, int high) {
            nextToken();
            return numberWithin(low, high);
        }

        void tellSize(int which) {
            tellOnce(which);
            if (sizesClosed) {
                fail(LATE);
            }
        }

        void readPeople() {
            tellSize(PEOPLE_TOLD);
            int n = nextWithin(2, MOST_PEOPLE);
            if (tooMany(draft.habits, n)) {
                fail(OUT);
            } else {
                draft.people = n;
            }
        }

        void readHabits() {
            tellSize(HABITS_TOLD);
            int n = nextWithin(2, MOST_HABITS);
            if (tooMany(n, draft.people)) {
                fail(OUT);
            } else {
                draft.habits = n;
            }
        }

        static boolean tooMany(int habits, int people) {
            int codes = 1;
            for (int p = 0; p < people && codes <= MOST_CODES; p++) {
                codes *= habits;
            }
            return codes > MOST_CODES;
        }

        void readWorth() {
            sizesClosed = true;
            int own = nextWithin(0, draft.habits - 1);
            int other = nextWithin(0, draft.habits - 1);
            int pair = own * MOST_HABITS + other;
            if ((worthsTold >> pair & 1) != 0) {
                fail(TWICE);
            }
            worthsTold |= 1 << pair;
            draft.gets[pair] = nextWithin(0, 99);
        }

        void readMeets() {
            sizesClosed = true;
            toldOnce |= MEETS_TOLD;
            nextToken();
            for (int i = 0; i < MOST_BYTES && kind == 0; i++) {
                int one = numberWithin(0, draft.people - 1);
                int other = nextWithin(0, draft.people - 1);
                if (one == other || (draft.meets[one] >> other & 1) != 0) {
                    fail(TWICE);
                }
                draft.meets[one] |= 1 << other;
                draft.meets[other] |= 1 << one;
                nextToken();
                if (token == SEMICOLON) {
                    return;
                }
            }
        }

        void readAnswer() {
            tellOnce(ANSWER_TOLD);
            nextToken();
            if (isWord("best")) {
                draft.answer = BEST;
            } else if (isWord("most")) {
                draft.answer = MOST;
            } else if (isWord("copy")) {
                draft.answer = COPY;
            } else {
                fail(SYNTAX);
            }
        }

        void readKeeps() {
            sizesClosed = true;
            int p = nextWithin(0, draft.people - 1);
            if (draft.keeps[p] != NONE) {
                fail(TWICE);
            }
            draft.keeps[p] = nextWithin(0, draft.habits - 1);
        }

        void readSlip() {
            sizesClosed = true;
            int h = nextWithin(0, draft.habits - 1);
            if ((slipsTold >> h & 1) != 0) {
                fail(TWICE);
            }
            slipsTold |= 1 << h;
            draft.slips[h] = nextWithin(1, 3);
        }
    }

    /** For each person in each STATE her own HABIT and her ANSWERS, looked up by all searches. */
    private static final class Replies {
        /** Own HABIT times 16, and the ANSWERS as bits. */
        final byte[] rows = new byte[MOST_CODES * MOST_PEOPLE];
        final int[] have = new int[MOST_PEOPLE];
        final int[] worths = new int[MOST_PEOPLE];
        final int[] met = new int[MOST_HABITS];

        int bits(int s, int p) {
            return rows[s * MOST_PEOPLE + p] & 15;
        }

        int own(int s, int p) {
            return rows[s * MOST_PEOPLE + p] >> 4;
        }

        /** Whether there is a row that was another one before. */
        boolean fill(Valley v) {
            boolean changed = false;
            for (int i = 0; i < v.states; i++) {
                int s = v.list[i];
                meetIn(v, s);
                for (int p = 0; p < v.people; p++) {
                    byte row = (byte) (have[p] << 4 | reply(v, p));
                    int place = s * MOST_PEOPLE + p;
                    if (rows[place] != row) {
                        rows[place] = row;
                        changed = true;
                    }
                }
            }
            return changed;
        }

        void meetIn(Valley v, int s) {
            for (int p = 0; p < v.people; p++) {
                have[p] = v.habitIn(s, p);
            }
            if (v.answer != COPY) {
                return;
            }
            for (int p = 0; p < v.people; p++) {
                countMet(v, p);
                worths[p] = pays(v, have[p]);
            }
        }

        void countMet(Valley v, int p) {
            for (int h = 0; h < v.habits; h++) {
                met[h] = 0;
            }
            for (int other = 0; other < v.people; other++) {
                if ((v.meets[p] >> other & 1) != 0) {
                    met[have[other]]++;
                }
            }
        }

        int pays(Valley v, int h) {
            int sum = 0;
            for (int j = 0; j < v.habits; j++) {
                sum += met[j] * v.gets[h * MOST_HABITS + j];
            }
            return sum;
        }

        int reply(Valley v, int p) {
            if (!v.isFree(p)) {
                return 1 << v.keeps[p];
            }
            int bits = v.answer == COPY ? copied(v, p) : greatest(v, p);
            int own = 1 << have[p];
            return v.stays && (bits & own) != 0 ? own : bits;
        }

        /** Best and most: if she meets nobody, all HABITS are alike. */
        int greatest(Valley v, int p) {
            countMet(v, p);
            int most = -1;
            int bits = 0;
            for (int h = 0; h < v.habits; h++) {
                int value = v.answer == BEST ? pays(v, h) : met[h];
                if (value > most) {
                    most = value;
                    bits = 0;
                }
                if (value == most) {
                    bits |= 1 << h;
                }
            }
            return bits;
        }

        int copied(Valley v, int p) {
            int most = worths[p];
            int bits = 1 << have[p];
            for (int other = 0; other < v.people; other++) {
                if ((v.meets[p] >> other & 1) == 0) {
                    continue;
                }
                if (worths[other] > most) {
                    most = worths[other];
                    bits = 0;
                }
                if (worths[other] == most) {
                    bits |= 1 << have[other];
                }
            }
            return bits;
        }
    }

    /** A valley with its ANSWERS, its RESTS and the FEWEST among them, each found when it is asked for. */
    private static final class Land {
        final Valley valley = new Valley();
        final Replies replies = new Replies();
        final Rests rests = new Rests();
        final int[] between = new int[MOST_ROOTS * MOST_ROOTS];
        boolean replied;
        boolean rested;
        boolean measured;

        void change() {
            replied = false;
            rested = false;
            measured = false;
        }

        boolean reply() {
            if (replied) {
                return false;
            }
            replied = true;
            return replies.fill(valley);
        }

        void ready() {
            reply();
            if (!rested) {
                rests.find(this);
                rested = true;
            }
        }

        void measure(Search search) {
            if (measured || rests.number > MOST_ROOTS) {
                return;
            }
            for (int b = 0; b < rests.number; b++) {
                search.toRest(this, b);
                for (int a = 0; a < rests.number; a++) {
                    between[a * MOST_ROOTS + b] = search.cost[rests.least(a)];
                }
            }
            measured = true;
        }

        /** The STATE behind MOVE i; as moves can be taken back, also the one ahead of it. */
        int beside(int s, int i) {
            int p = valley.mover[i];
            int own = replies.rows[s * MOST_PEOPLE + p] >> 4;
            return s + (valley.taken[i] - own) * valley.powers[p];
        }

        /** What it costs if person p moves so that one STATE becomes the other. */
        int price(int s, int next, int p) {
            int h = replies.rows[next * MOST_PEOPLE + p] >> 4;
            return (replies.rows[s * MOST_PEOPLE + p] >> h & 1) != 0 ? 0 : valley.slips[h];
        }
    }

    /**
     * Finds the sets of STATES that come to one another (by Tarjan's way, without recursion). A set is
     * closed only behind all to which it leads, so what it comes to is known then.
     */
    private static final class Rests {
        private static final int OPEN = -5;
        private static final int SEVERAL = -6;
        private static final int MOST_ADVANCES = 1000000;

        int number;
        /** The REST of a STATE; as long as it is open, to what the MOVES out of its set lead. */
        final int[] home = new int[MOST_CODES];
        /** The only REST to which a STATE comes, or SEVERAL. */
        final int[] only = new int[MOST_CODES];
        final int[] members = new int[MOST_CODES];
        final int[] starts = new int[MOST_CODES + 1];
        final int[] basins = new int[MOST_CODES];
        final int[] order = new int[MOST_CODES];
        final int[] low = new int[MOST_CODES];
        final int[] tried = new int[MOST_CODES];
        final int[] path = new int[MOST_CODES];
        final int[] open = new int[MOST_CODES];
        int depth;
        int opened;
        int entered;

        boolean has(int k) {
            return k >= 0 && k < number;
        }

        int least(int k) {
            return members[starts[k]];
        }

        int size(int k) {
            return starts[k + 1] - starts[k];
        }

        void find(Land land) {
            Valley v = land.valley;
            number = 0;
            depth = 0;
            opened = 0;
            entered = 0;
            fillTo(order, v.codes, 0);
            fillTo(home, v.codes, NONE);
            fillTo(only, v.codes, OPEN);
            for (int i = 0; i < v.states; i++) {
                if (order[v.list[i]] != 0) {
                    continue;
                }
                enter(v.list[i]);
                for (int step = 0; step < MOST_ADVANCES && depth > 0; step++) {
                    advance(land);
                }
            }
            numberByLeast(v);
            gather(v);
        }

        void advance(Land land) {
            int s = path[depth - 1];
            int to = nextMove(land, s);
            if (to == NONE) {
                retreat(s);
            } else if (order[to] == 0) {
                enter(to);
            } else if (only[to] == OPEN) {
                low[s] = Math.min(low[s], order[to]);
            } else {
                home[s] = join(home[s], only[to]);
            }
        }

        void enter(int s) {
            entered++;
            order[s] = entered;
            low[s] = entered;
            tried[s] = 0;
            if (depth < MOST_CODES && opened < MOST_CODES) {
                path[depth] = s;
                depth++;
                open[opened] = s;
                opened++;
            }
        }

        int nextMove(Land land, int s) {
            while (tried[s] < land.valley.moves) {
                int to = land.beside(s, tried[s]);
                int p = land.valley.mover[tried[s]];
                tried[s]++;
                if (to != s && land.price(s, to, p) == 0) {
                    return to;
                }
            }
            return NONE;
        }

        void retreat(int s) {
            depth--;
            if (low[s] == order[s]) {
                close(s);
            }
            if (depth == 0) {
                return;
            }
            int before = path[depth - 1];
            if (only[s] == OPEN) {
                low[before] = Math.min(low[before], low[s]);
            } else {
                home[before] = join(home[before], only[s]);
            }
        }

        /** All that were opened since s come to one another; if no MOVE leads out, they are a REST. */
        void close(int s) {
            int first = opened;
            int goal = NONE;
            boolean more = true;
            while (more && first > 0) {
                first--;
                goal = join(goal, home[open[first]]);
                more = open[first] != s;
            }
            boolean rest = goal == NONE;
            for (int i = first; i < opened; i++) {
                only[open[i]] = rest ? number : goal;
                home[open[i]] = rest ? number : NONE;
            }
            if (rest) {
                number++;
            }
            opened = first;
        }

        static int join(int one, int other) {
            if (one == NONE || one == other) {
                return other;
            }
            return other == NONE ? one : SEVERAL;
        }

        /** The RESTS were numbered as they were found; low is free now to hold their new numbers. */
        void numberByLeast(Valley v) {
            fillTo(low, v.codes, NONE);
            int next = 0;
            for (int i = 0; i < v.states; i++) {
                int old = home[v.list[i]];
                if (old >= 0 && low[old] == NONE) {
                    low[old] = next;
                    next++;
                }
            }
            for (int i = 0; i < v.states; i++) {
                int s = v.list[i];
                home[s] = home[s] < 0 ? NONE : low[home[s]];
                only[s] = only[s] < 0 ? SEVERAL : low[only[s]];
            }
        }

        void gather(Valley v) {
            fillTo(starts, number + 1, 0);
            fillTo(basins, number, 0);
            for (int i = 0; i < v.states; i++) {
                int s = v.list[i];
                if (home[s] >= 0) {
                    starts[home[s] + 1]++;
                }
                if (only[s] >= 0) {
                    basins[only[s]]++;
                }
            }
            for (int k = 0; k < number; k++) {
                starts[k + 1] += starts[k];
                low[k] = starts[k];
            }
            for (int i = 0; i < v.states; i++) {
                int s = v.list[i];
                if (home[s] >= 0) {
                    members[low[home[s]]] = s;
                    low[home[s]]++;
                }
            }
        }
    }

    /**
     * Least costs, level by level: at each level those with just that cost are settled, and what
     * costs nothing more is settled with them.
     */
    private static final class Search {
        final int[] cost = new int[MOST_CODES];
        final int[] hops = new int[MOST_CODES];
        final int[] queue = new int[MOST_CODES];
        int queued;

        /** The least cost from a STATE to a STATE; what is dearer isn't looked at. */
        int toState(Land land, int target, int from) {
            fillTo(cost, land.valley.codes, FAR);
            cost[target] = 0;
            for (int level = 0; level <= MOST_COST && cost[from] >= level; level++) {
                settleBack(land, level);
            }
            return cost[from];
        }

        /** Costs from all STATES to come to a REST. */
        void toRest(Land land, int k) {
            seed(land, k);
            int left = land.valley.states;
            for (int level = 0; level <= MOST_COST && left > 0; level++) {
                left -= settleBack(land, level);
            }
        }

        /** The least cost from a REST to a STATE out of its BASIN; NONE: there is no such STATE. */
        int leave(Land land, int k) {
            if (land.rests.basins[k] == land.valley.states) {
                return NONE;
            }
            seed(land, k);
            for (int level = 0; level <= MOST_COST; level++) {
                collect(land, level);
                for (int i = 0; i < queued; i++) {
                    if (land.rests.only[queue[i]] != k) {
                        return level;
                    }
                }
                settleForth(land, level);
            }
            return NONE;
        }

        void seed(Land land, int k) {
            fillTo(cost, land.valley.codes, FAR);
            for (int i = land.rests.starts[k]; i < land.rests.starts[k + 1]; i++) {
                cost[land.rests.members[i]] = 0;
            }
        }

        void collect(Land land, int level) {
            queued = 0;
            for (int i = 0; i < land.valley.states; i++) {
                int s = land.valley.list[i];
                if (cost[s] == level) {
                    queue[queued] = s;
                    queued++;
                }
            }
        }

        int settleBack(Land land, int level) {
            collect(land, level);
            int settled = 0;
            while (settled < MOST_CODES && queued > 0) {
                queued--;
                settled++;
                backFrom(land, queue[queued], level);
            }
            return settled;
        }

        void backFrom(Land land, int s, int level) {
            for (int i = 0; i < land.valley.moves; i++) {
                int before = land.beside(s, i);
                if (cost[before] > level) {
                    lower(before, level + land.price(before, s, land.valley.mover[i]), level);
                }
            }
        }

        void settleForth(Land land, int level) {
            for (int i = 0; i < MOST_CODES && queued > 0; i++) {
                queued--;
                forthFrom(land, queue[queued], level);
            }
        }

        void forthFrom(Land land, int s, int level) {
            for (int i = 0; i < land.valley.moves; i++) {
                int next = land.beside(s, i);
                if (cost[next] > level) {
                    lower(next, level + land.price(s, next, land.valley.mover[i]), level);
                }
            }
        }

        void lower(int s, int value, int level) {
            if (value >= cost[s]) {
                return;
            }
            cost[s] = value;
            if (value == level && queued < MOST_CODES) {
                queue[queued] = s;
                queued++;
            }
        }

        /** Behind toState(): the fewest MOVES with the least cost, as far as they are needed. */
        void countMoves(Land land, int target, int from) {
            fillTo(hops, land.valley.codes, FAR);
            hops[target] = 0;
            queue[0] = target;
            queued = 1;
            for (int i = 0; i < MOST_CODES && i < queued && hops[from] == FAR; i++) {
                reachBack(land, queue[i]);
            }
        }

        void reachBack(Land land, int s) {
            for (int i = 0; i < land.valley.moves; i++) {
                int before = land.beside(s, i);
                boolean fresh = hops[before] == FAR && queued < MOST_CODES;
                if (fresh && cost[before] == cost[s] + land.price(before, s, land.valley.mover[i])) {
                    hops[before] = hops[s] + 1;
                    queue[queued] = before;
                    queued++;
                }
            }
        }

        /** Behind countMoves(): THE WAY's STATES; how many MOVES it has. */
        int trace(Land land, int from, int[] states) {
            int s = from;
            int moves = hops[from];
            if (moves >= states.length) {
                return NONE;
            }
            states[0] = s;
            for (int i = 1; i <= moves; i++) {
                s = leastNext(land, s);
                states[i] = s;
            }
            return moves;
        }

        int leastNext(Land land, int s) {
            int found = FAR;
            for (int i = 0; i < land.valley.moves; i++) {
                int next = land.beside(s, i);
                boolean nearer = next < found && hops[next] == hops[s] - 1;
                if (nearer && cost[s] == cost[next] + land.price(s, next, land.valley.mover[i])) {
                    found = next;
                }
            }
            return found == FAR ? s : found;
        }
    }

    /** Trees of least sum, by Edmonds' way: each takes its cheapest edge, rings are drawn together. */
    private static final class Trees {
        int size;
        final int[] next = new int[MOST_ROOTS];
        final int[] fixed = new int[MOST_ROOTS];
        final int[] now = new int[MOST_ROOTS * MOST_ROOTS];
        final int[] then = new int[MOST_ROOTS * MOST_ROOTS];
        final int[] cheapest = new int[MOST_ROOTS];
        final int[] mark = new int[MOST_ROOTS];
        final int[] name = new int[MOST_ROOTS];

        /** How many RESTS the latest tree has is size; 0 ahead of any. */
        int goesOn(int i) {
            return i >= 0 && i < size ? next[i] : NONE;
        }

        int leastSum(Land land, int root) {
            Arrays.fill(fixed, NONE);
            return sumAsFixed(land, root);
        }

        /** One REST after the other is fixed to the least to which it can go on in a tree of least sum. */
        int grow(Land land, int root) {
            int least = leastSum(land, root);
            int all = land.rests.number;
            for (int i = 0; i < all; i++) {
                for (int j = 0; j < all && i != root; j++) {
                    if (j == i) {
                        continue;
                    }
                    fixed[i] = j;
                    if (sumAsFixed(land, root) == least) {
                        break;
                    }
                }
            }
            size = all;
            System.arraycopy(fixed, 0, next, 0, MOST_ROOTS);
            return least;
        }

        /** The least sum of the trees in which those that are fixed go on so; FAR or more: there is none. */
        int sumAsFixed(Land land, int root) {
            int all = land.rests.number;
            for (int a = 0; a < all; a++) {
                for (int b = 0; b < all; b++) {
                    boolean barred = fixed[a] != NONE && fixed[a] != b;
                    now[a * MOST_ROOTS + b] = barred ? FAR : land.between[a * MOST_ROOTS + b];
                }
            }
            int sum = 0;
            int top = root;
            for (int round = 0; round < MOST_ROOTS; round++) {
                sum += chooseCheapest(all, top);
                int rings = nameRings(all, top);
                if (rings == 0) {
                    return sum;
                }
                int fewer = nameOthers(all, rings);
                drawTogether(all, fewer, top);
                top = name[top];
                all = fewer;
            }
            return sum;
        }

        int chooseCheapest(int all, int root) {
            int sum = 0;
            for (int a = 0; a < all; a++) {
                cheapest[a] = NONE;
                for (int b = 0; b < all && a != root; b++) {
                    if (b != a && (cheapest[a] == NONE || edge(a, b) < edge(a, cheapest[a]))) {
                        cheapest[a] = b;
                    }
                }
                sum += cheapest[a] == NONE ? 0 : edge(a, cheapest[a]);
            }
            return sum;
        }

        int edge(int a, int b) {
            return now[a * MOST_ROOTS + b];
        }

        /** How many rings the cheapest edges make; those in one bear its name, others NONE. */
        int nameRings(int all, int root) {
            Arrays.fill(mark, NONE);
            Arrays.fill(name, NONE);
            int rings = 0;
            for (int a = 0; a < all; a++) {
                int at = a;
                for (int i = 0; i < all && at != root && mark[at] == NONE; i++) {
                    mark[at] = a;
                    at = cheapest[at];
                }
                if (at != root && mark[at] == a && name[at] == NONE) {
                    for (int i = 0; i < all && name[at] == NONE; i++) {
                        name[at] = rings;
                        at = cheapest[at];
                    }
                    rings++;
                }
            }
            return rings;
        }

        int nameOthers(int all, int rings) {
            int names = rings;
            for (int a = 0; a < all; a++) {
                if (name[a] == NONE) {
                    name[a] = names;
                    names++;
                }
            }
            return names;
        }

        /** What an edge costs more than the one that its place has taken is what the change to it costs. */
        void drawTogether(int all, int fewer, int root) {
            Arrays.fill(then, FAR);
            for (int a = 0; a < all; a++) {
                int paid = a == root || cheapest[a] == NONE ? 0 : edge(a, cheapest[a]);
                for (int b = 0; b < all; b++) {
                    if (name[a] != name[b]) {
                        int place = name[a] * MOST_ROOTS + name[b];
                        then[place] = Math.min(then[place], edge(a, b) - paid);
                    }
                }
            }
            System.arraycopy(then, 0, now, 0, fewer * MOST_ROOTS);
        }
    }

    /** The parts in each STATE as they flow. */
    private static final class Flow {
        boolean known;
        final int[] held = new int[MOST_CODES];
        final int[] coming = new int[MOST_CODES];

        void pour(Land land, int s, int rounds, int q) {
            Arrays.fill(held, 0);
            held[s] = ALL_PARTS;
            known = true;
            boolean flows = land.valley.freeCount > 0;
            // behind a round that changes nothing no other one does
            for (int i = 0; i < rounds && flows; i++) {
                flows = flowOnce(land, q);
            }
        }

        boolean flowOnce(Land land, int q) {
            Valley v = land.valley;
            fillTo(coming, v.codes, 0);
            for (int i = 0; i < v.states; i++) {
                if (held[v.list[i]] > 0) {
                    spread(land, v.list[i], q);
                }
            }
            boolean changed = false;
            for (int i = 0; i < v.states; i++) {
                int s = v.list[i];
                changed |= held[s] != coming[s];
                held[s] = coming[s];
            }
            return changed;
        }

        void spread(Land land, int s, int q) {
            Valley v = land.valley;
            int share = held[s] / Math.max(1, v.freeCount);
            int slipping = share / Math.max(1, q);
            int each = slipping / v.habits;
            int left = held[s];
            for (int p = 0; p < v.people; p++) {
                if (!v.isFree(p)) {
                    continue;
                }
                int bits = land.replies.bits(s, p);
                int own = land.replies.own(s, p);
                int answered = (share - slipping) / Math.max(1, Integer.bitCount(bits));
                for (int h = 0; h < v.habits; h++) {
                    if (h != own) {
                        int part = (bits >> h & 1) != 0 ? each + answered : each;
                        coming[s + (h - own) * v.powers[p]] += part;
                        left -= part;
                    }
                }
            }
            coming[s] += left;
        }
    }

    /** A row of MOVES that is gone through, by a seed or from the tape, and what is counted on it. */
    private static final class Walk {
        private static final long FACTOR = 1103515245L;
        private static final long ADDED = 12345L;
        private static final long MODULUS = 2147483648L;

        boolean known;
        int state;
        int slips;
        int cost;
        int rested;
        boolean whole;
        final int[] moves = new int[MOST_PEOPLE];
        long seed;

        void begin(int s) {
            known = true;
            state = s;
            slips = 0;
            cost = 0;
            rested = 0;
            whole = true;
            Arrays.fill(moves, 0);
        }

        void step(Land land, int p, int h) {
            if ((land.replies.bits(state, p) >> h & 1) == 0) {
                slips++;
                cost += land.valley.slips[h];
            }
            moves[p]++;
            state = land.valley.with(state, p, h);
            if (land.rests.home[state] != NONE) {
                rested++;
            }
        }

        int draw() {
            seed = (FACTOR * seed + ADDED) % MODULUS;
            return (int) (seed / 65536);
        }

        void wander(Land land, int s, int from, int steps, int q) {
            Valley v = land.valley;
            begin(s);
            seed = from;
            for (int i = 0; i < steps; i++) {
                int p = bitAt(v.free, draw() % Math.max(1, v.freeCount));
                boolean slip = draw() % Math.max(1, q) == 0;
                int third = draw();
                int bits = land.replies.bits(state, p);
                int h = slip ? third % v.habits : bitAt(bits, third % Math.max(1, Integer.bitCount(bits)));
                step(land, p, h);
            }
        }

        /** The number of the bit that has so many below it. */
        static int bitAt(int bits, int below) {
            int left = below;
            for (int i = 0; i < MOST_PEOPLE; i++) {
                if ((bits >> i & 1) != 0) {
                    if (left == 0) {
                        return i;
                    }
                    left--;
                }
            }
            return 0;
        }

        int follow(Land land, int s, Tape tape, int rows) {
            Valley v = land.valley;
            begin(s);
            for (int i = 0; i < rows; i++) {
                int p = (tape.bytes[2 * i] & 255) - '0';
                int h = (tape.bytes[2 * i + 1] & 255) - '0';
                if (!v.isPerson(p) || !v.isFree(p) || !v.isHabit(h)) {
                    whole = false;
                    return i;
                }
                step(land, p, h);
            }
            return rows;
        }
    }

    /** What was SEEN and put RIGHT, each with the STEP at which it was told. */
    private static final class Seen {
        int number;
        int changes;
        int latest;
        final int[] days = new int[MOST_SEEN];
        final int[] steps = new int[MOST_SEEN];
        final int[] states = new int[MOST_SEEN];
        final int[] changeOf = new int[MOST_SEEN];
        final int[] changeSteps = new int[MOST_SEEN];
        final int[] changeStates = new int[MOST_SEEN];

        void clear() {
            number = 0;
            changes = 0;
            latest = 0;
        }

        boolean has(int k) {
            return k >= 0 && k < number;
        }

        boolean mayTell(int step) {
            return step >= latest && step <= LAST_STEP;
        }

        boolean mayDawn(int day) {
            return day >= 0 && day <= LAST_DAY && (number == 0 || day > days[number - 1]);
        }

        int add(int step, int day, int s) {
            latest = step;
            days[number] = day;
            steps[number] = step;
            states[number] = s;
            number++;
            return number - 1;
        }

        int change(int step, int k, int s) {
            latest = step;
            changeOf[changes] = k;
            changeSteps[changes] = step;
            changeStates[changes] = s;
            changes++;
            int often = 0;
            for (int i = 0; i < changes; i++) {
                if (changeOf[i] == k) {
                    often++;
                }
            }
            return often;
        }

        /** Which STATE it was as known at a STEP; NONE: it wasn't told yet. */
        int knownAt(int step, int k) {
            if (steps[k] > step) {
                return NONE;
            }
            int s = states[k];
            for (int i = 0; i < changes; i++) {
                if (changeOf[i] == k && changeSteps[i] <= step) {
                    s = changeStates[i];
                }
            }
            return s;
        }
    }
}
