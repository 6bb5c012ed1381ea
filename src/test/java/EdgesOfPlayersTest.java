import java.math.BigInteger;

/** The edges that the document names of players, draws and games (promises 20 to 23), one method a sentence. */
public final class EdgesOfPlayersTest {
    private static final int MAX = Integer.MAX_VALUE;
    private static final String NINE = "ab:ab,ab,ab,ab,ab,ab,ab,ab,ab";
    // Only the last lane matters.
    private static final String LAST = "ab:cd,cd,cd,cd,cd,cd,cd,cd,ab";
    // Every lane is on a shortest way, and no way is joined soon.
    private static final String LONG = "ab:ac,cd,de,ef,fb";
    private static final Check CHECK = new Check("EdgesOfPlayersTest");

    public static void main(String[] args) {
        kinds();
        fivePlayersAtMost();
        playersWithoutNet();
        asPlayers();
        asKinds();
        asItsOwnNumber();
        moveRefusals();
        moveSeeds();
        moveOfPlayer();
        moveOfBest();
        moveOfNear();
        moveOfDear();
        moveOfChance();
        drawsAreRoundedDown();
        gameRefusals();
        gameSeeds();
        gameThatIsOver();
        gameOfOneMove();
        gameOfNineMoves();
        gameDraws();
        gameOfOneForBoth();
        gameChangesNothing();
        CHECK.end();
    }

    private static void run(String what, String net, String... steps) {
        Calls.run(CHECK, what + ", " + net, net.isEmpty() ? new CutsOrFast() : Check.made(net), steps);
    }

    /** The players 0 to 4 are of the kinds 0 to 4. */
    private static CutsOrFast withAll(String net) {
        CutsOrFast x = net.isEmpty() ? new CutsOrFast() : Check.made(net);
        for (int kind = 0; kind < 5; kind++) {
            x.player(kind);
        }
        return x;
    }

    private static void runWithAll(String what, String net, String... steps) {
        Calls.run(CHECK, what + ", " + net, withAll(net), steps);
    }

    private static int next(int seed) {
        BigInteger next = BigInteger.valueOf(1103515245).multiply(BigInteger.valueOf(seed)).add(BigInteger.valueOf(12345));
        return next.mod(BigInteger.TWO.pow(31)).intValueExact();
    }

    /** The seed that a seed comes behind. */
    private static int ahead(int seed) {
        BigInteger all = BigInteger.TWO.pow(31);
        BigInteger back = BigInteger.valueOf(1103515245).modInverse(all);
        return BigInteger.valueOf(seed).subtract(BigInteger.valueOf(12345)).multiply(back).mod(all).intValueExact();
    }

    // OUTSIDE: kind.
    private static void kinds() {
        run("20: kinds", "", "player(MIN) OUTSIDE", "player(-1) OUTSIDE", "player(5) OUTSIDE", "player(MAX) OUTSIDE", "count(6) 0",
            "player(0) 0", "player(4) 1", "player(-1) OUTSIDE", "player(5) OUTSIDE", "count(6) 2", "player(2) 2");
    }

    // PLAYERS (5 at most, numbered). FULL.
    private static void fivePlayersAtMost() {
        run("20: five", "", "player(0) 0", "player(0) 1", "player(0) 2", "player(0) 3", "count(6) 4", "player(0) 4", "count(6) 5",
            "player(0) FULL", "player(4) FULL", "player(5) OUTSIDE", "player(-1) OUTSIDE", "count(6) 5", "as(4,0) 4", "as(5,0) UNKNOWN");
        CutsOrFast x = withAll("ab:ab");
        Calls.run(CHECK, "20: they stay, whatever is read", x, "page cd:cd", "net() 1", "count(6) 5", "player(0) FULL", "image() 0",
            "restore() 0", "count(6) 5", "as(4,4) 4");
    }

    private static void playersWithoutNet() {
        run("20, 21: without a net", "", "player(3) 0", "as(0,2) 0", "as(0,1) NONE", "move(0,0) STATE", "game(0,0,0,0) STATE");
        run("20: an image does not keep them", "ab:ab", "player(1) 0", "image() 0", "player(2) 1", "restore() 0", "count(6) 2", "as(1,2) 1",
            "player(3) 2");
    }

    // UNKNOWN.
    private static void asPlayers() {
        run("21: of none", "", "as(-1,0) UNKNOWN", "as(0,0) UNKNOWN", "as(0,-1) UNKNOWN", "as(0,5) UNKNOWN");
        run("21: of one", "", "player(0) 0", "as(-1,0) UNKNOWN", "as(0,0) 0", "as(1,0) UNKNOWN", "as(1,5) UNKNOWN", "as(-1,-1) UNKNOWN");
        runWithAll("21: of five", "", "as(-1,0) UNKNOWN", "as(0,0) 0", "as(4,0) 4", "as(5,0) UNKNOWN", "as(5,5) UNKNOWN",
            "as(MIN,0) UNKNOWN", "as(MAX,0) UNKNOWN");
    }

    // OUTSIDE.
    private static void asKinds() {
        for (int player = 0; player < 5; player++) {
            runWithAll("21: kinds", "", "as(" + player + ",-1) OUTSIDE", "as(" + player + ",0) " + player,
                "as(" + player + "," + player + ") " + player, "as(" + player + ",5) OUTSIDE", "as(" + player + ",MIN) OUTSIDE",
                "as(" + player + ",MAX) OUTSIDE");
        }
    }

    // All are PLAYERS; a DEAR is NEAR, too. Its own number (not that of the KIND); NONE: it is none such.
    private static void asItsOwnNumber() {
        run("21: numbers that are not the kinds'", "", "player(4) 0", "player(3) 1", "player(2) 2", "player(1) 3", "player(0) 4",
            "as(0,4) 0", "as(0,0) 0", "as(0,3) NONE", "as(1,3) 1", "as(1,2) 1", "as(1,0) 1", "as(1,4) NONE", "as(1,1) NONE", "as(2,2) 2",
            "as(2,3) NONE", "as(2,0) 2", "as(2,1) NONE", "as(3,1) 3", "as(3,0) 3", "as(3,2) NONE", "as(4,0) 4", "as(4,1) NONE",
            "as(4,2) NONE", "as(4,3) NONE", "as(4,4) NONE");
    }

    // UNKNOWN: player; STATE: no NET, or it is JOINED or PARTED; OUTSIDE: seed (0 at least).
    private static void moveRefusals() {
        run("22: no player, no net", "", "move(0,-1) UNKNOWN", "move(-1,0) UNKNOWN");
        run("22: one player, no net", "", "player(0) 0", "move(-1,0) UNKNOWN", "move(0,0) STATE", "move(0,-1) STATE", "move(1,-1) UNKNOWN");
        run("22: one player", "ab:ab", "player(0) 0", "move(-1,0) UNKNOWN", "move(0,0) 0", "move(1,0) UNKNOWN", "move(MIN,0) UNKNOWN",
            "move(MAX,-1) UNKNOWN");
        runWithAll("22: five players", "ab:ab", "move(4,0) 0", "move(5,0) UNKNOWN");
        runWithAll("22: joined", "ab:ab+,cd", "move(0,0) STATE", "move(1,0) STATE", "move(2,0) STATE", "move(3,0) STATE", "move(4,0) STATE",
            "move(4,-1) STATE", "move(5,0) UNKNOWN");
        runWithAll("22: parted", "ab:ab-,cd", "move(0,0) STATE", "move(1,0) STATE", "move(2,0) STATE", "move(3,0) STATE", "move(4,0) STATE",
            "move(4,-1) STATE", "move(-1,0) UNKNOWN");
        runWithAll("22: joined by a move", "ab:ab,cd", "move(0,0) 0", "take(0) 1", "move(0,0) STATE", "back() 0", "move(0,0) 0");
    }

    private static void moveSeeds() {
        for (int kind = 0; kind < 5; kind++) {
            runWithAll("22: seeds", "ab:ab", "move(" + kind + ",-1) OUTSIDE", "move(" + kind + ",0) 0", "move(" + kind + ",1) 0",
                "move(" + kind + ",MAX) 0", "move(" + kind + ",MIN) OUTSIDE");
        }
    }

    // A PLAYER takes the least OPEN LANE.
    private static void moveOfPlayer() {
        runWithAll("22: the first", LAST, "move(0,9) 0", "take(0) 1", "move(0,9) 1", "take(2) 2", "move(0,9) 1", "take(1) 3", "move(0,9) 3");
        runWithAll("22: the ninth", "ab:cd+,cd-,cd+,cd-,cd+,cd-,cd+,cd-,ab", "move(0,0) 8", "begin(1) 0", "move(0,0) 8");
    }

    // A BEST the least one behind which that side HAS IT (the least of all, if there is none).
    private static void moveOfBest() {
        runWithAll("22: best, the ninth", LAST, "move(1,0) 8", "begin(1) 0", "move(1,0) 8");
        runWithAll("22: best, the least of several", "ab:cd,ab,ab", "move(1,0) 0", "begin(1) 0", "move(1,0) 0");
        runWithAll("22: best, none", "ab:ac,cb,cd", "move(1,0) 0", "begin(1) 0", "move(1,0) 0");
        runWithAll("22: best, none, the least open one", "ab:cd+,cd-,ac,cb", "move(1,0) 2");
        runWithAll("22: best, none for CUT", "ab:cd-,cd+,ab,ab", "begin(1) 0", "move(1,0) 2");
        runWithAll("22: best of one", "ab:ab", "move(1,0) 0", "begin(1) 0", "move(1,0) 0");
    }

    // A NEAR the least OPEN one that is on a shortest way, over LANES that are not CUT (FAST ones are 0 long, OPEN ones 1).
    private static void moveOfNear() {
        runWithAll("22: near, the ninth", LAST, "move(2,0) 8", "begin(1) 0", "move(2,0) 8");
        runWithAll("22: near, one long and two long", "ab:ac,cb,ab", "move(2,0) 2");
        runWithAll("22: near, two of one long each", "ab:ac,cb+,ab", "move(2,0) 0");
        runWithAll("22: near, two long each", "ab:ac,cb,ad,db", "move(2,0) 0");
        runWithAll("22: near, the short one is cut", "ab:cd,ac,cb,ab-", "move(2,0) 1");
        runWithAll("22: near, a long one of fast lanes", "ab:ac,cb,ad+,de+,ef+,fb", "move(2,0) 5");
        runWithAll("22: near, a fast one beside an open one", "ab:ac,ac+,cb", "move(2,0) 2");
        runWithAll("22: near, a way into nowhere", "ab:ac,ad,db", "move(2,0) 1");
        runWithAll("22: near, from either end", "ba:de,bc,ca,ab-", "move(2,0) 1", "begin(1) 0", "move(2,0) 1");
        runWithAll("22: near, five long", LONG, "move(2,0) 0", "take(0) 1", "move(2,0) 1", "take(4) 2", "move(2,0) STATE");
        runWithAll("22: near, five long, told from the far end", "ab:fb,ef,de,cd,ac", "move(2,0) 0");
        runWithAll("22: near, a round of fast ones", "ab:cd,ac+,ad+,cd,cb", "move(2,0) 4");
    }

    // A DEAR of these the one of greatest COST, of like ones the least.
    private static void moveOfDear() {
        runWithAll("22: dear, of like ones", "ab:ac5,cb5,ab-9", "move(3,0) 0");
        runWithAll("22: dear, the last", "ab:ac5,cb6", "move(3,0) 1");
        runWithAll("22: dear, the first", "ab:ac6,cb5", "move(3,0) 0");
        runWithAll("22: dear, not the dearest of all", "ab:cd9,ac,cb2,ad9,de9", "move(3,0) 2");
        runWithAll("22: dear, of like ones behind a cheap one", "ab:ac8,cb9,ad9,db9", "move(3,0) 1");
        runWithAll("22: dear, not a fast one", "ab:ac+9,cb3", "move(3,0) 1");
        runWithAll("22: dear, costs from 1 to 9", "ab:ac1,cd2,de9,ef8,fb9", "move(3,0) 2");
        runWithAll("22: dear, though a dear way is as long", "ab:ab9,ac9,cb9,ab", "move(3,0) 0");
    }

    // A CHANCE the one (of OPEN LANES by number, from 0) that a DRAW of how many there are tells.
    private static void moveOfChance() {
        for (int lane = 0; lane < 9; lane++) {
            int seed = ahead(lane * 65536);
            runWithAll("22: chance, of nine " + lane, NINE, "move(4," + seed + ") " + lane);
            seed = ahead((lane + 9) * 65536 + 65535);
            runWithAll("22: chance, of nine again " + lane, NINE, "move(4," + seed + ") " + lane);
        }
        runWithAll("22: chance of one", "ab:cd+,ab,cd-", "move(4,0) 1", "move(4,1) 1", "move(4,MAX) 1", "move(4,77) 1");
        int zero = ahead(0);
        int one = ahead(65536);
        int two = ahead(2 * 65536);
        runWithAll("22: chance, open ones by number", "ab:cd+,ab,cd-,ab,ef+2,ab", "move(4," + zero + ") 1",
            "move(4," + one + ") 3", "move(4," + two + ") 5");
        runWithAll("22: chance, of two", "ab:ab,ab", "move(4," + zero + ") 0", "move(4," + one + ") 1", "move(4," + two + ") 0");
    }

    // Then that by 65536 (rounded down), its rest; the next one is its rest by 2 to the 31.
    private static void drawsAreRoundedDown() {
        int[] seeds = {0, 1, 65535, 65536, 65537, 131071, 131072, MAX - 65536, MAX - 65535, MAX - 1, MAX};
        for (int seed : seeds) {
            CHECK.due("the test's own draws", next(ahead(seed)), seed);
            runWithAll("22: the next seed is " + seed, NINE, "move(4," + ahead(seed) + ") " + seed / 65536 % 9);
            runWithAll("22: the seed is " + seed, NINE, "move(4," + seed + ") " + next(seed) / 65536 % 9);
            runWithAll("23: the next seed is " + seed, "ab:ab", "game(4,4," + ahead(seed) + ",3) " + seed);
        }
    }

    // UNKNOWN: join, cut (PLAYERS); STATE: no NET; OUTSIDE: seed (0 at least), what.
    private static void gameRefusals() {
        run("23: no player, no net", "", "game(0,0,-1,4) UNKNOWN");
        run("23: one player, no net", "", "player(0) 0", "game(0,0,0,0) STATE", "game(0,0,-1,4) STATE", "game(1,0,-1,4) UNKNOWN",
            "game(0,1,-1,4) UNKNOWN", "game(-1,0,0,0) UNKNOWN", "game(0,-1,0,0) UNKNOWN");
        run("23: one player", "ab:ab", "player(0) 0", "game(0,0,0,0) 0", "game(1,0,0,0) UNKNOWN", "game(0,1,0,0) UNKNOWN",
            "game(-1,0,0,0) UNKNOWN", "game(0,-1,0,0) UNKNOWN", "game(1,0,-1,0) UNKNOWN", "game(0,1,0,4) UNKNOWN",
            "game(0,0,0,-1) OUTSIDE", "game(0,0,0,3) 0", "game(0,0,0,4) OUTSIDE", "game(0,0,0,MAX) OUTSIDE", "game(0,0,0,MIN) OUTSIDE",
            "game(0,0,-1,0) OUTSIDE", "game(0,0,-1,4) OUTSIDE");
        runWithAll("23: five players", "ab:ab", "game(4,4,0,0) 0", "game(5,4,0,0) UNKNOWN", "game(4,5,0,0) UNKNOWN",
            "game(MIN,0,0,0) UNKNOWN", "game(0,MAX,0,0) UNKNOWN");
    }

    private static void gameSeeds() {
        runWithAll("23: seeds", "ab:ab", "game(0,0,-1,3) OUTSIDE", "game(0,0,0,3) 0", "game(0,0,1,3) 1", "game(0,0,MAX,3) 2147483647",
            "game(0,0,MIN,3) OUTSIDE", "game(4,4,0,3) 12345", "game(4,4,1,3) " + next(1), "game(4,4,MAX,3) " + next(MAX));
    }

    // From now on until it is JOINED or PARTED.
    private static void gameThatIsOver() {
        runWithAll("23: joined", "ab:ab+,cd,cd+", "game(4,4,5,0) 0", "game(4,4,5,1) 0", "game(4,4,5,2) 5", "game(4,4,5,3) 5",
            "game(4,4,-1,3) OUTSIDE", "game(4,4,5,4) OUTSIDE");
        runWithAll("23: parted", "ab:ab-,cd,cd+", "game(4,4,5,0) 1", "game(4,4,5,1) 0", "game(4,4,5,2) 4", "game(4,4,5,3) 5");
        runWithAll("23: joined by a move", "ab:ab,cd", "game(0,0,5,1) 1", "take(0) 1", "game(0,0,5,1) 0", "game(0,0,5,0) 0",
            "game(0,0,5,2) 1", "back() 0", "game(0,0,5,1) 1");
    }

    private static void gameOfOneMove() {
        runWithAll("23: one lane", "ab:ab", "game(4,0,0,0) 0", "game(4,0,0,1) 1", "game(4,0,0,2) 1", "game(4,0,0,3) 12345",
            "game(0,4,0,3) 0", "begin(1) 0", "game(4,0,0,0) 1", "game(4,0,0,1) 1", "game(4,0,0,2) 0", "game(4,0,0,3) 0",
            "game(0,4,0,3) 12345");
    }

    private static void gameOfNineMoves() {
        runWithAll("23: nine moves", LAST, "game(0,0,7,0) 0", "game(0,0,7,1) 9", "game(0,0,7,2) 341", "game(0,0,7,3) 7", "begin(1) 0",
            "game(0,0,7,0) 1", "game(0,0,7,1) 9", "game(0,0,7,2) 170", "game(0,0,7,3) 7");
        runWithAll("23: how many from now on", LAST, "take(0) 1", "take(1) 2", "game(0,0,7,1) 7", "game(0,0,7,2) 341", "take(2) 3",
            "take(3) 4", "take(4) 5", "take(5) 6", "take(6) 7", "take(7) 8", "game(0,0,7,1) 1", "game(0,0,7,2) 341", "game(0,0,7,0) 0",
            "take(8) 9", "game(0,0,7,1) 0", "game(0,0,7,2) 341", "game(0,0,7,0) 0");
        runWithAll("23: best takes it at once", LAST, "game(1,0,7,1) 1", "game(0,1,7,1) 2", "game(0,1,7,0) 1", "game(1,0,7,2) 256",
            "game(0,1,7,2) 1");
    }

    // The SEED then: a draw for each move of a CHANCE, with one lane open, too; none for the others.
    private static void gameDraws() {
        String[] nets = {"ab:ab", "ab:cd,ab", LAST, NINE, LONG, "ab:ac3,cb,ad,db9,cd,ab-,ae+,eb,cd2", "ab:ac+,cd,db,ae5,ec9,ef,fb2"};
        for (String net : nets) {
            for (int pair = 0; pair < 25; pair++) {
                for (int who = 0; who < 2; who++) {
                    gameAsItsMoves(net, pair / 5, pair % 5, who, 1000 + pair);
                }
            }
        }
        runWithAll("23: none draws", LAST, "game(0,1,9,3) 9", "game(2,3,9,3) 9", "game(1,2,9,3) 9");
    }

    /** What a game tells must be what its moves, done one by one, come to. */
    private static void gameAsItsMoves(String net, int join, int cut, int who, int seed) {
        CutsOrFast x = withAll(net);
        x.begin(who);
        int[] told = {x.game(join, cut, seed, 0), x.game(join, cut, seed, 1), x.game(join, cut, seed, 2), x.game(join, cut, seed, 3)};
        int now = seed;
        int moves = 0;
        while (x.status() == 0) {
            int player = x.count(5) == 0 ? join : cut;
            moves = x.take(x.move(player, now));
            now = player == 4 ? next(now) : now;
        }
        int fast = 0;
        for (int lane = 0; lane < x.count(0); lane++) {
            fast += x.lane(lane, 2) == 1 ? 1 << lane : 0;
        }
        int[] due = {x.status() - 1, moves, fast, now};
        for (int what = 0; what < 4; what++) {
            CHECK.due("23: " + join + " and " + cut + ", " + net + ", what " + what, told[what], due[what]);
        }
    }

    // The same may be both.
    private static void gameOfOneForBoth() {
        for (int kind = 0; kind < 5; kind++) {
            CutsOrFast x = Check.made("ab:ac3,cb,ad,db9,cd,ab");
            x.player(kind);
            x.player(kind);
            for (int what = 0; what < 4; what++) {
                CHECK.due("23: one for both, kind " + kind + ", what " + what, x.game(0, 0, 31, what), x.game(0, 1, 31, what));
                CHECK.due("23: the other way round", x.game(1, 1, 31, what), x.game(1, 0, 31, what));
            }
        }
    }

    // As it would be: nothing of it is done.
    private static void gameChangesNothing() {
        CutsOrFast x = withAll("ab:ac3,cb,ad,db9,cd,ab-");
        x.take(4);
        x.image();
        long before = x.digest();
        for (int join = 0; join < 5; join++) {
            for (int cut = 0; cut < 5; cut++) {
                for (int what = 0; what < 4; what++) {
                    int first = x.game(join, cut, 99, what);
                    CHECK.due("23: the same again", x.game(join, cut, 99, what), first);
                }
            }
            x.move(join, 99);
        }
        CHECK.due("22, 23: nothing is changed", x.digest(), before);
        Calls.run(CHECK, "22, 23: nor the moves and the image", x, "back() 0", "restore() 1", "lane(4,2) 1", "back() 0", "back() STATE");
    }
}
