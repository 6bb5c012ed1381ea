/** One cuts, one makes fast: the game on a net of lanes between two ends, as ../shared/DOC.md tells it. */
public final class CutsOrFast {
    public static final int NONE = -1, UNKNOWN = -101, OUTSIDE = -102, STATE = -103, FULL = -104;

    private static final int JOIN = 0, CUT = 1;
    private static final int NEITHER = 0, JOINED = 1, PARTED = 2;
    private static final int MOST_LANES = 9, PLACES = 6, MOST_LETTERS = 50;
    private static final int MOST_PLAYERS = 5, KINDS = 5, MOST_MENDS = 20, HOWS = 3, COUNTS = 10;
    // Of 0 to 10: one more than a net has lanes, for the lane that mends.
    private static final int[] FACTORIALS = {1, 1, 2, 6, 24, 120, 720, 5040, 40320, 362880, 3628800};

    private final Page page;
    private final Net lanes;
    private final Stand now;
    private final Stand kept;
    private final Stand tried;
    private final Search search;
    private final Sets sets;
    private final Draws draws;
    private final Player[] players;
    private int playersMade;
    private int netsRead;
    private int mendsDone;
    private boolean imageKept;

    public CutsOrFast() {
        page = new Page();
        lanes = new Net();
        now = new Stand(lanes);
        kept = new Stand(lanes);
        tried = new Stand(lanes);
        search = new Search(lanes);
        sets = new Sets(lanes, search);
        draws = new Draws();
        players = new Player[MOST_PLAYERS];
    }

    // ---- the net

    public int letters(long w) {
        return page.append(w);
    }

    public int blank() {
        int had = page.size();
        page.clear();
        return had;
    }

    public int fault() {
        return page.soundLetters();
    }

    public int net() {
        if (!page.isNet()) {
            return STATE;
        }
        page.readInto(lanes, now);
        page.clear();
        search.forget();
        imageKept = false;
        netsRead++;
        return lanes.size();
    }

    public int lane(int lane, int what) {
        if (!isLane(lane)) {
            return UNKNOWN;
        }
        switch (what) {
            case 0: return lanes.firstPlace(lane);
            case 1: return lanes.secondPlace(lane);
            case 2: return now.stateOf(lane);
            case 3: return lanes.costOf(lane);
            default: return OUTSIDE;
        }
    }

    public int status() {
        return hasNet() ? now.outcome() : STATE;
    }

    // ---- moves

    public int begin(int who) {
        if (!isSide(who)) {
            return UNKNOWN;
        }
        if (!hasNet() || now.movesMade() > 0) {
            return STATE;
        }
        int was = now.side();
        now.setSide(who);
        return was;
    }

    public int take(int lane) {
        if (!isLane(lane)) {
            return UNKNOWN;
        }
        if (!canBeTaken(lane)) {
            return STATE;
        }
        now.play(lane);
        return now.movesMade();
    }

    public int back() {
        if (!hasNet() || now.movesMade() == 0) {
            return STATE;
        }
        now.undo();
        return now.movesMade();
    }

    public int whose(int who) {
        if (!isSide(who)) {
            return UNKNOWN;
        }
        return hasNet() ? search.owner(now.fastSet(), now.cutSet(), who) : STATE;
    }

    public int by(int who) {
        if (!isSide(who)) {
            return UNKNOWN;
        }
        return hasNet() ? search.leastGood(now.fastSet(), now.cutSet(), who) : STATE;
    }

    public int answer(int lane) {
        if (!isLane(lane)) {
            return UNKNOWN;
        }
        if (!canBeTaken(lane)) {
            return STATE;
        }
        return search.leastGood(now.fastSet(), now.cutSet() | (1 << lane), JOIN);
    }

    public int lost() {
        if (!hasNet()) {
            return STATE;
        }
        tried.copyFrom(now);
        tried.undoAll();
        for (int i = 0; i < now.movesMade(); i++) {
            int who = tried.side();
            boolean had = search.owner(tried.fastSet(), tried.cutSet(), who) == who;
            tried.play(now.moveAt(i));
            if (had && search.owner(tried.fastSet(), tried.cutSet(), tried.side()) != who) {
                return i;
            }
        }
        return NONE;
    }

    // ---- sets of lanes

    public int ways() {
        return hasNet() ? sets.twoWays(now.fastSet(), now.cutSet()) : STATE;
    }

    public int parting(int what) {
        if (!hasNet()) {
            return STATE;
        }
        if (what < 0 || what > 1) {
            return OUTSIDE;
        }
        int set = sets.fewestCuts(now.fastSet(), now.cutSet());
        return set == NONE || what == 1 ? set : Integer.bitCount(set);
    }

    public int mend(int what) {
        if (!hasNet() || mendsDone >= MOST_MENDS) {
            return STATE;
        }
        if (what < 0 || what > 2) {
            return OUTSIDE;
        }
        mendsDone++;
        int pair = sets.oneMore(now.fastSet(), now.cutSet());
        if (what == 0) {
            return pair == Sets.SAFE ? 0 : pair == Sets.IN_VAIN ? 2 : 1;
        }
        if (pair < 0) {
            return NONE;
        }
        return what == 1 ? pair / PLACES : pair % PLACES;
    }

    public int bought(int what) {
        if (!hasNet()) {
            return STATE;
        }
        if (what < 0 || what > 1) {
            return OUTSIDE;
        }
        int set = sets.cheapest(now.fastSet(), now.cutSet());
        return set == NONE || what == 1 ? set : lanes.costOfSet(set);
    }

    public int likely(int how, int part) {
        if (!hasNet()) {
            return STATE;
        }
        if (how < 0 || how >= HOWS || part < 0 || part > 1) {
            return OUTSIDE;
        }
        int above = search.worth(how, now.fastSet(), now.cutSet(), now.side());
        int below = factorial(Integer.bitCount(now.openSet()));
        int shared = greatestDivisor(above, below);
        return (part == 0 ? above : below) / (shared > 0 ? shared : 1);
    }

    // ---- players

    public int player(int kind) {
        if (!isKind(kind)) {
            return OUTSIDE;
        }
        if (playersMade < 0 || playersMade >= players.length) {
            return FULL;
        }
        players[playersMade] = newPlayer(kind);
        playersMade++;
        return playersMade - 1;
    }

    public int as(int player, int kind) {
        Player found = playerAt(player);
        if (found == null) {
            return UNKNOWN;
        }
        if (!isKind(kind)) {
            return OUTSIDE;
        }
        return isOfKind(found, kind) ? player : NONE;
    }

    public int move(int player, int seed) {
        Player found = playerAt(player);
        if (found == null) {
            return UNKNOWN;
        }
        if (!hasNet() || now.outcome() != NEITHER) {
            return STATE;
        }
        if (seed < 0) {
            return OUTSIDE;
        }
        draws.start(seed);
        return found.choose(now, search, draws);
    }

    public int game(int join, int cut, int seed, int what) {
        Player joins = playerAt(join);
        Player cuts = playerAt(cut);
        if (joins == null || cuts == null) {
            return UNKNOWN;
        }
        if (!hasNet()) {
            return STATE;
        }
        if (seed < 0 || what < 0 || what > 3) {
            return OUTSIDE;
        }
        draws.start(seed);
        int moves = playOut(joins, cuts);
        switch (what) {
            case 0: return tried.outcome() == JOINED ? JOIN : CUT;
            case 1: return moves;
            case 2: return tried.fastSet();
            default: return draws.seedNow();
        }
    }

    // ---- what is told of all

    public int image() {
        if (!hasNet()) {
            return STATE;
        }
        kept.copyFrom(now);
        imageKept = true;
        return now.movesMade();
    }

    public int restore() {
        if (!imageKept) {
            return STATE;
        }
        now.copyFrom(kept);
        return now.movesMade();
    }

    public int count(int what) {
        switch (what) {
            case 0: return lanes.size();
            case 1: return Integer.bitCount(now.openSet());
            case 2: return Integer.bitCount(now.fastSet());
            case 3: return Integer.bitCount(now.cutSet());
            case 4: return now.movesMade();
            case 5: return now.side();
            case 6: return playersMade;
            case 7: return page.size();
            case 8: return netsRead;
            case 9: return mendsDone;
            default: return OUTSIDE;
        }
    }

    public long digest() {
        long h = 587;
        for (int lane = 0; lane < lanes.size(); lane++) {
            for (int what = 0; what <= 3; what++) {
                h = 31 * h + lane(lane, what);
            }
        }
        if (hasNet()) {
            h = 31 * h + status();
            h = 31 * h + whose(JOIN);
            h = 31 * h + whose(CUT);
            h = 31 * h + by(JOIN);
            h = 31 * h + by(CUT);
            h = 31 * h + lost();
            h = 31 * h + ways();
            h = 31 * h + parting(0);
            h = 31 * h + parting(1);
            h = 31 * h + bought(0);
            h = 31 * h + bought(1);
            for (int how = 0; how < HOWS; how++) {
                h = 31 * h + likely(how, 0);
                h = 31 * h + likely(how, 1);
            }
        }
        for (int i = 0; i < players.length; i++) {
            Player one = players[i];
            if (one != null) {
                h = 31 * h + one.kind();
            }
        }
        for (int i = 0; i < page.size(); i++) {
            h = 31 * h + page.codeAt(i);
        }
        for (int what = 0; what < COUNTS; what++) {
            h = 31 * h + count(what);
        }
        return h;
    }

    private boolean hasNet() {
        return lanes.size() > 0;
    }

    private boolean isLane(int lane) {
        return lane >= 0 && lane < lanes.size();
    }

    private static boolean isSide(int who) {
        return who == JOIN || who == CUT;
    }

    private static boolean isKind(int kind) {
        return kind >= 0 && kind < KINDS;
    }

    private boolean canBeTaken(int lane) {
        return now.outcome() == NEITHER && now.stateOf(lane) == Net.OPEN;
    }

    private Player playerAt(int player) {
        return player >= 0 && player < players.length ? players[player] : null;
    }

    private static Player newPlayer(int kind) {
        switch (kind) {
            case Best.KIND: return new Best();
            case Near.KIND: return new Near();
            case Dear.KIND: return new Dear();
            case Chance.KIND: return new Chance();
            default: return new Player();
        }
    }

    private static boolean isOfKind(Player player, int kind) {
        switch (kind) {
            case Best.KIND: return player instanceof Best;
            case Near.KIND: return player instanceof Near;
            case Dear.KIND: return player instanceof Dear;
            case Chance.KIND: return player instanceof Chance;
            default: return true;
        }
    }

    /** Plays on from now to the end on a stand of its own: how many moves that took. */
    private int playOut(Player joins, Player cuts) {
        tried.copyFrom(now);
        int moves = 0;
        while (moves < MOST_LANES && tried.outcome() == NEITHER) {
            Player mover = tried.side() == JOIN ? joins : cuts;
            tried.play(mover.choose(tried, search, draws));
            moves++;
        }
        return moves;
    }

    private static int factorial(int of) {
        return of >= 0 && of < FACTORIALS.length ? FACTORIALS[of] : 0;
    }

    private static int greatestDivisor(int one, int other) {
        int a = one;
        int b = other;
        for (int i = 0; i < 100 && b != 0; i++) {
            int rest = a % b;
            a = b;
            b = rest;
        }
        return a;
    }

    // Rows are read and written by these alone, so that no index is used untested.

    private static int at(int[] row, int i) {
        return i >= 0 && i < row.length ? row[i] : 0;
    }

    private static long at(long[] row, int i) {
        return i >= 0 && i < row.length ? row[i] : 0;
    }

    private static void put(int[] row, int i, int value) {
        if (i >= 0 && i < row.length) {
            row[i] = value;
        }
    }

    private static void put(long[] row, int i, long value) {
        if (i >= 0 && i < row.length) {
            row[i] = value;
        }
    }

    /** The letters that are to be read as a net. */
    private static final class Page {
        // What has been read so far; behind PAIR, SIGN and COST a net may end.
        private static final int WRONG = -1, START = 0, ONE_END = 1, BOTH_ENDS = 2, LANE_DUE = 3;
        private static final int ONE_PLACE = 4, PAIR = 5, SIGN = 6, COST = 7;
        private static final int FIRST_LANE = 3, BYTES = 8, HIGHEST_CODE = 126;

        private final int[] codes = new int[MOST_LETTERS];
        private int used;
        private int lastStep;

        int size() {
            return used;
        }

        void clear() {
            used = 0;
        }

        int codeAt(int i) {
            return i < used ? at(codes, i) : 0;
        }

        int append(long bytes) {
            int more = 0;
            boolean over = false;
            for (int i = 0; i < BYTES; i++) {
                int code = byteOf(bytes, i);
                if (code > HIGHEST_CODE || (over && code != 0)) {
                    return OUTSIDE;
                }
                if (code == 0) {
                    over = true;
                } else {
                    more++;
                }
            }
            if (used + more > MOST_LETTERS) {
                return FULL;
            }
            for (int i = 0; i < more; i++) {
                put(codes, used + i, byteOf(bytes, i));
            }
            used += more;
            return used;
        }

        private static int byteOf(long bytes, int i) {
            return (int) ((bytes >>> (8 * i)) & 255);
        }

        boolean isNet() {
            return soundLetters() == used && lastStep >= PAIR;
        }

        /** How many letters, from the first, some net begins with; lastStep tells what was read with them. */
        int soundLetters() {
            int lanesRead = 0;
            int previous = 0;
            lastStep = START;
            for (int i = 0; i < used; i++) {
                int code = codeAt(i);
                lastStep = step(lastStep, code, previous, lanesRead);
                if (lastStep == WRONG) {
                    return i;
                }
                if (lastStep == PAIR) {
                    lanesRead++;
                }
                previous = code;
            }
            return used;
        }

        private static int step(int from, int code, int previous, int lanesRead) {
            switch (from) {
                case START: return isPlace(code) ? ONE_END : WRONG;
                case ONE_END: return isPlace(code) && code != previous ? BOTH_ENDS : WRONG;
                case BOTH_ENDS: return code == ':' ? LANE_DUE : WRONG;
                case LANE_DUE: return isPlace(code) ? ONE_PLACE : WRONG;
                case ONE_PLACE: return isPlace(code) && code != previous ? PAIR : WRONG;
                default: return stepBehindPair(from, code, lanesRead);
            }
        }

        private static int stepBehindPair(int from, int code, int lanesRead) {
            if (code == ',') {
                return lanesRead < MOST_LANES ? LANE_DUE : WRONG;
            }
            if (from < COST && isCost(code)) {
                return COST;
            }
            return from == PAIR && (code == '+' || code == '-') ? SIGN : WRONG;
        }

        private static boolean isPlace(int code) {
            return code >= 'a' && code <= 'f';
        }

        private static boolean isCost(int code) {
            return code >= '1' && code <= '9';
        }

        /** Reads the page, which must be a net. */
        void readInto(Net net, Stand stand) {
            int fast = 0;
            int cut = 0;
            int i = FIRST_LANE;
            net.start(codeAt(0) - 'a', codeAt(1) - 'a');
            while (i < used && net.size() < MOST_LANES) {
                int bit = 1 << net.size();
                int first = codeAt(i) - 'a';
                int second = codeAt(i + 1) - 'a';
                int cost = 1;
                i += 2;
                if (codeAt(i) == '+') {
                    fast |= bit;
                    i++;
                } else if (codeAt(i) == '-') {
                    cut |= bit;
                    i++;
                }
                if (isCost(codeAt(i))) {
                    cost = codeAt(i) - '0';
                    i++;
                }
                net.add(first, second, cost);
                i++;
            }
            stand.start(fast, cut);
        }
    }

    /** The lanes and the ends; what lanes are (open, fast, cut) is a stand's. */
    private static final class Net {
        static final int OPEN = 0, FAST = 1, GONE = 2;

        // One lane more than a text can have, for the one that mends.
        private final int[] first = new int[MOST_LANES + 1];
        private final int[] second = new int[MOST_LANES + 1];
        private final int[] cost = new int[MOST_LANES + 1];
        private final int[] pair = new int[MOST_LANES + 1];
        // For each set of lanes the places, as bits, that hang together with the one end by it.
        private final int[] reached = new int[1 << (MOST_LANES + 1)];
        private int used;
        private int oneEnd;
        private int otherEnd;

        void start(int one, int other) {
            oneEnd = one;
            otherEnd = other;
            used = 0;
            put(reached, 0, 1 << one);
        }

        /** A lane more; only the sets that have it are new. */
        void add(int one, int other, int price) {
            put(first, used, one);
            put(second, used, other);
            put(cost, used, price);
            put(pair, used, (1 << one) | (1 << other));
            int bit = 1 << used;
            used++;
            for (int set = 0; set < bit; set++) {
                put(reached, set | bit, spread(at(reached, set), set | bit));
            }
        }

        void dropLast() {
            if (used > 0) {
                used--;
            }
        }

        private int spread(int from, int set) {
            int places = from;
            for (int round = 1; round < PLACES; round++) {
                int wider = spreadOnce(places, set);
                if (wider == places) {
                    return places;
                }
                places = wider;
            }
            return places;
        }

        private int spreadOnce(int from, int set) {
            int places = from;
            for (int lane = 0; lane < used; lane++) {
                int both = at(pair, lane);
                if ((set & (1 << lane)) != 0 && (places & both) != 0) {
                    places |= both;
                }
            }
            return places;
        }

        int size() {
            return used;
        }

        int all() {
            return (1 << used) - 1;
        }

        int oneEnd() {
            return oneEnd;
        }

        int otherEnd() {
            return otherEnd;
        }

        int firstPlace(int lane) {
            return at(first, lane);
        }

        int secondPlace(int lane) {
            return at(second, lane);
        }

        int costOf(int lane) {
            return at(cost, lane);
        }

        int costOfSet(int set) {
            int sum = 0;
            for (int lane = 0; lane < used; lane++) {
                if ((set & (1 << lane)) != 0) {
                    sum += at(cost, lane);
                }
            }
            return sum;
        }

        /** Whether the ends hang together by a set of lanes. */
        boolean joins(int set) {
            return (at(reached, set) & (1 << otherEnd)) != 0;
        }

        /** The ends and all places that have a lane, as bits. */
        int placesInUse() {
            int places = (1 << oneEnd) | (1 << otherEnd);
            for (int lane = 0; lane < used; lane++) {
                places |= at(pair, lane);
            }
            return places;
        }

        /** Whether places hang together, and with the one end, by a set of lanes. */
        boolean spans(int set, int places) {
            return (places & ~at(reached, set)) == 0;
        }

        int outcome(int fast, int cut) {
            if (joins(fast)) {
                return JOINED;
            }
            return joins(all() & ~cut) ? NEITHER : PARTED;
        }
    }

    /** What all lanes are, who is to move, and the moves. */
    private static final class Stand {
        private final Net net;
        private final int[] moves = new int[MOST_LANES];
        private int made;
        private int fast;
        private int cut;
        private int mover;

        Stand(Net net) {
            this.net = net;
        }

        void start(int fastAtFirst, int cutAtFirst) {
            fast = fastAtFirst;
            cut = cutAtFirst;
            mover = JOIN;
            made = 0;
        }

        void copyFrom(Stand other) {
            fast = other.fast;
            cut = other.cut;
            mover = other.mover;
            made = other.made;
            for (int i = 0; i < made; i++) {
                put(moves, i, at(other.moves, i));
            }
        }

        void play(int lane) {
            if (mover == JOIN) {
                fast |= 1 << lane;
            } else {
                cut |= 1 << lane;
            }
            put(moves, made, lane);
            made++;
            mover = 1 - mover;
        }

        void undo() {
            if (made > 0) {
                made--;
                int bit = 1 << at(moves, made);
                fast &= ~bit;
                cut &= ~bit;
                mover = 1 - mover;
            }
        }

        void undoAll() {
            for (int i = made; i > 0; i--) {
                undo();
            }
        }

        int outcome() {
            return net.outcome(fast, cut);
        }

        int stateOf(int lane) {
            int bit = 1 << lane;
            if ((fast & bit) != 0) {
                return Net.FAST;
            }
            return (cut & bit) != 0 ? Net.GONE : Net.OPEN;
        }

        Net itsNet() {
            return net;
        }

        int movesMade() {
            return made;
        }

        int moveAt(int i) {
            return at(moves, i);
        }

        int side() {
            return mover;
        }

        void setSide(int who) {
            mover = who;
        }

        int fastSet() {
            return fast;
        }

        int cutSet() {
            return cut;
        }

        int openSet() {
            return net.all() & ~fast & ~cut;
        }

        /** The open lane ahead of which so many open ones stand. */
        int openLane(int ahead) {
            int left = ahead;
            for (int lane = 0; lane < net.size(); lane++) {
                if (stateOf(lane) == Net.OPEN) {
                    if (left == 0) {
                        return lane;
                    }
                    left--;
                }
            }
            return NONE;
        }
    }

    /**
     * Who has it, and how likely it is that the ends are joined in the end, by trying all moves. What is found is kept,
     * each stand once, in few elements: many objects share one room.
     */
    private static final class Search {
        static final int CUT_BY_CHANCE = 0, JOIN_BY_CHANCE = 1, BOTH_BY_CHANCE = 2;

        // How many stands there are of nine lanes, and of ten: each is open, fast or cut.
        private static final int STANDS = 19683, STANDS_WITH_ONE_MORE = 59049;
        // An owner takes two bits: 0 when it is not found yet, else one more than it.
        private static final int OWNERS_A_LONG = 32, OWNER_BITS = 2, OWNER_MASK = 3;
        // Likewise what is found of each way to ask how likely it is, in twenty bits: nine factorial is less.
        private static final int WORTH_BITS = 20, WORTH_MASK = (1 << WORTH_BITS) - 1;

        private final Net net;
        // A set of lanes as a number by threes, so that a stand has a number of its own.
        private final int[] threes = new int[1 << (MOST_LANES + 1)];
        // By stand and who is to move.
        private final long[] owners = new long[2 * STANDS_WITH_ONE_MORE / OWNERS_A_LONG + 1];
        // By stand alone: by turns, one side alone can be to move in it.
        private final long[] worths = new long[STANDS];
        private int turnsKept = NONE;

        Search(Net net) {
            this.net = net;
            int three = 1;
            for (int lane = 0; lane <= MOST_LANES; lane++) {
                int bit = 1 << lane;
                for (int set = 0; set < bit; set++) {
                    put(threes, set | bit, at(threes, set) + three);
                }
                three *= 3;
            }
        }

        /** To be called whenever the net has become another one. */
        void forget() {
            empty(owners);
            turnsKept = NONE;
        }

        private static void empty(long[] row) {
            for (int i = 0; i < row.length; i++) {
                row[i] = 0;
            }
        }

        private int openSet(int fast, int cut) {
            return net.all() & ~fast & ~cut;
        }

        private int standOf(int fast, int cut) {
            return at(threes, fast) + 2 * at(threes, cut);
        }

        /** Who has it with that one to move. */
        int owner(int fast, int cut, int mover) {
            return ownerOf(fast, cut, mover, Integer.bitCount(openSet(fast, cut)));
        }

        /** The least lane behind which that one has it, if it is to move. */
        int leastGood(int fast, int cut, int mover) {
            if (net.outcome(fast, cut) != NEITHER) {
                return NONE;
            }
            return ownersMove(fast, cut, mover, Integer.bitCount(openSet(fast, cut)));
        }

        private int ownerOf(int fast, int cut, int mover, int left) {
            if (net.joins(fast)) {
                return JOIN;
            }
            if (left <= 0 || !net.joins(net.all() & ~cut)) {
                return CUT;
            }
            int place = 2 * standOf(fast, cut) + mover;
            int shift = OWNER_BITS * (place % OWNERS_A_LONG);
            long kept = at(owners, place / OWNERS_A_LONG);
            int known = (int) (kept >>> shift) & OWNER_MASK;
            if (known != 0) {
                return known - 1;
            }
            int found = ownersMove(fast, cut, mover, left) == NONE ? 1 - mover : mover;
            // Moves behind this one may have kept something beside it.
            kept = at(owners, place / OWNERS_A_LONG);
            put(owners, place / OWNERS_A_LONG, kept | (long) (found + 1) << shift);
            return found;
        }

        /** The least lane by which the mover has it, of so many open ones. */
        private int ownersMove(int fast, int cut, int mover, int left) {
            int open = openSet(fast, cut);
            for (int lane = 0; lane < net.size(); lane++) {
                int bit = 1 << lane;
                if ((open & bit) != 0) {
                    int owner = mover == JOIN
                        ? ownerOf(fast | bit, cut, CUT, left - 1)
                        : ownerOf(fast, cut | bit, JOIN, left - 1);
                    if (owner == mover) {
                        return lane;
                    }
                }
            }
            return NONE;
        }

        /**
         * How likely it is, times the factorial of how many lanes are open: a whole number always, as every move by
         * chance divides by the open ones.
         */
        int worth(int how, int fast, int cut, int mover) {
            int left = Integer.bitCount(openSet(fast, cut));
            int turns = (mover + left) & 1;
            if (turns != turnsKept) {
                empty(worths);
                turnsKept = turns;
            }
            return worthOf(how, fast, cut, mover, left);
        }

        private int worthOf(int how, int fast, int cut, int mover, int left) {
            if (net.joins(fast)) {
                return factorial(left);
            }
            if (left <= 0 || !net.joins(net.all() & ~cut)) {
                return 0;
            }
            int stand = standOf(fast, cut);
            int shift = WORTH_BITS * how;
            int known = (int) (at(worths, stand) >>> shift) & WORTH_MASK;
            if (known != 0) {
                return known - 1;
            }
            int found = worthByMoves(how, fast, cut, mover, left);
            put(worths, stand, at(worths, stand) | (long) (found + 1) << shift);
            return found;
        }

        private static boolean movesByChance(int how, int mover) {
            return how == BOTH_BY_CHANCE || how == (mover == CUT ? CUT_BY_CHANCE : JOIN_BY_CHANCE);
        }

        private int worthByMoves(int how, int fast, int cut, int mover, int left) {
            int open = openSet(fast, cut);
            int sum = 0;
            int best = mover == JOIN ? 0 : factorial(left - 1);
            for (int lane = 0; lane < net.size(); lane++) {
                int bit = 1 << lane;
                if ((open & bit) != 0) {
                    int worth = mover == JOIN
                        ? worthOf(how, fast | bit, cut, CUT, left - 1)
                        : worthOf(how, fast, cut | bit, JOIN, left - 1);
                    sum += worth;
                    best = mover == JOIN ? Math.max(best, worth) : Math.min(best, worth);
                }
            }
            return movesByChance(how, mover) ? sum : left * best;
        }
    }

    /** Sets of lanes, as bits, that are best of their like. */
    private static final class Sets {
        static final int SAFE = -1, IN_VAIN = -2;

        private final Net net;
        private final Search search;

        Sets(Net net, Search search) {
            this.net = net;
            this.search = search;
        }

        int twoWays(int fast, int cut) {
            int uncut = net.all() & ~cut;
            int places = net.placesInUse();
            for (int set = 0; set <= uncut; set++) {
                boolean isUncut = (set & ~uncut) == 0;
                if (isUncut && net.spans(set, places) && net.spans((uncut & ~set) | fast, places)) {
                    return set;
                }
            }
            return NONE;
        }

        int fewestCuts(int fast, int cut) {
            int uncut = net.all() & ~cut;
            int open = uncut & ~fast;
            int best = NONE;
            int fewest = MOST_LANES + 1;
            for (int set = 0; set <= open; set++) {
                int many = Integer.bitCount(set);
                if ((set & ~open) == 0 && many < fewest && !net.joins(uncut & ~set)) {
                    best = set;
                    fewest = many;
                }
            }
            return best;
        }

        int cheapest(int fast, int cut) {
            int open = net.all() & ~fast & ~cut;
            int best = NONE;
            int least = net.costOfSet(open) + 1;
            for (int set = 0; set <= open; set++) {
                if ((set & ~open) == 0) {
                    int cost = net.costOfSet(set);
                    if (cost < least && search.owner(fast | set, cut, CUT) == JOIN) {
                        best = set;
                        least = cost;
                    }
                }
            }
            return best;
        }

        /** The two places of the lane that mends, as six times the lesser one and the greater one; or SAFE, IN_VAIN. */
        int oneMore(int fast, int cut) {
            if (search.owner(fast, cut, CUT) == JOIN) {
                return SAFE;
            }
            // CUT could cut the new lane at once: then JOIN moves as if there were none.
            if (search.owner(fast, cut, JOIN) == CUT) {
                return IN_VAIN;
            }
            int found = IN_VAIN;
            for (int pair = 0; pair < PLACES * PLACES && found == IN_VAIN; pair++) {
                if (pair / PLACES < pair % PLACES && mends(pair / PLACES, pair % PLACES, fast, cut)) {
                    found = pair;
                }
            }
            search.forget();
            return found;
        }

        private boolean mends(int lesser, int greater, int fast, int cut) {
            net.add(lesser, greater, 1);
            search.forget();
            boolean has = search.owner(fast, cut, CUT) == JOIN;
            net.dropLast();
            return has;
        }
    }

    /** Numbers drawn by a seed. */
    private static final class Draws {
        private long seed;

        void start(int first) {
            seed = first;
        }

        int next(int many) {
            seed = (1103515245L * seed + 12345) & 0x7fffffffL;
            return many > 0 ? (int) (seed / 65536 % many) : 0;
        }

        int seedNow() {
            return (int) seed;
        }
    }

    /** Takes the least open lane. */
    private static class Player {
        int kind() {
            return 0;
        }

        int choose(Stand stand, Search search, Draws draws) {
            return stand.openLane(0);
        }
    }

    /** Takes the least lane behind which its side has it. */
    private static final class Best extends Player {
        static final int KIND = 1;

        int kind() {
            return KIND;
        }

        int choose(Stand stand, Search search, Draws draws) {
            int good = search.leastGood(stand.fastSet(), stand.cutSet(), stand.side());
            return good == NONE ? stand.openLane(0) : good;
        }
    }

    /** Takes the least open lane on a shortest way between the ends. */
    private static class Near extends Player {
        static final int KIND = 2;
        private static final int FAR = 1000;

        private final int[] fromOne = new int[PLACES];
        private final int[] fromOther = new int[PLACES];

        int kind() {
            return KIND;
        }

        int choose(Stand stand, Search search, Draws draws) {
            Net net = stand.itsNet();
            measure(fromOne, net.oneEnd(), stand);
            measure(fromOther, net.otherEnd(), stand);
            int shortest = at(fromOne, net.otherEnd());
            int chosen = NONE;
            for (int lane = 0; lane < net.size(); lane++) {
                if (stand.stateOf(lane) == Net.OPEN && lengthOver(net, lane) == shortest
                    && (chosen == NONE || isRather(net, lane, chosen))) {
                    chosen = lane;
                }
            }
            return chosen == NONE ? stand.openLane(0) : chosen;
        }

        /** Whether a lane is taken rather than one ahead of it. */
        boolean isRather(Net net, int lane, int ahead) {
            return false;
        }

        /** How long a shortest way is that goes over this open lane. */
        private int lengthOver(Net net, int lane) {
            int first = net.firstPlace(lane);
            int second = net.secondPlace(lane);
            int along = at(fromOne, first) + 1 + at(fromOther, second);
            int against = at(fromOne, second) + 1 + at(fromOther, first);
            return Math.min(along, against);
        }

        private static void measure(int[] far, int from, Stand stand) {
            for (int i = 0; i < far.length; i++) {
                far[i] = FAR;
            }
            put(far, from, 0);
            for (int round = 1; round < PLACES; round++) {
                shorten(far, stand);
            }
        }

        private static void shorten(int[] far, Stand stand) {
            Net net = stand.itsNet();
            for (int lane = 0; lane < net.size(); lane++) {
                int state = stand.stateOf(lane);
                if (state != Net.GONE) {
                    int length = state == Net.FAST ? 0 : 1;
                    int first = net.firstPlace(lane);
                    int second = net.secondPlace(lane);
                    put(far, first, Math.min(at(far, first), at(far, second) + length));
                    put(far, second, Math.min(at(far, second), at(far, first) + length));
                }
            }
        }
    }

    /** Takes the dearest open lane on a shortest way between the ends. */
    private static final class Dear extends Near {
        static final int KIND = 3;

        int kind() {
            return KIND;
        }

        boolean isRather(Net net, int lane, int ahead) {
            return net.costOf(lane) > net.costOf(ahead);
        }
    }

    /** Takes an open lane that is drawn. */
    private static final class Chance extends Player {
        static final int KIND = 4;

        int kind() {
            return KIND;
        }

        int choose(Stand stand, Search search, Draws draws) {
            return stand.openLane(draws.next(Integer.bitCount(stand.openSet())));
        }
    }
}
