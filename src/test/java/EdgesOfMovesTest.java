/** The edges that the document names of moves (promises 8 to 14), one method a sentence. */
public final class EdgesOfMovesTest {
    private static final String NINE = "ab:ab,ab,ab,ab,ab,ab,ab,ab,ab";
    // Only the last lane matters.
    private static final String LAST = "ab:cd,cd,cd,cd,cd,cd,cd,cd,ab";
    private static final Check CHECK = new Check("EdgesOfMovesTest");

    public static void main(String[] args) {
        withoutNet();
        beginWho();
        beginBehindAMove();
        beginWhenAllIsOver();
        takeNumbers();
        takeWhatIsNotOpen();
        takeWhenAllIsOver();
        takeByTurns();
        takeToTheLastLane();
        backToTheFirst();
        backFromTheEnd();
        whoseWho();
        whoseIsJoinedOrParted();
        whoseOfFewLanes();
        whoseWhoeverBegins();
        byLeastAndGreatest();
        byNone();
        answerNumbers();
        answerWhatIsNotOpen();
        answerWhenAllIsOver();
        answerBehindTheCut();
        answerWhoeverIsToMove();
        lostNone();
        lostTheFirst();
        lostByTheLatest();
        lostAlsoFromTheText();
        CHECK.end();
    }

    private static void run(String what, String net, String... steps) {
        Calls.run(CHECK, what + ", " + net, net.isEmpty() ? new CutsOrFast() : Check.made(net), steps);
    }

    // STATE: no NET; UNKNOWN is told ahead of it; of a LANE without a NET it is UNKNOWN.
    private static void withoutNet() {
        run("8", "", "begin(-1) UNKNOWN", "begin(0) STATE", "begin(1) STATE", "begin(2) UNKNOWN", "count(5) 0");
        run("9", "", "take(-1) UNKNOWN", "take(0) UNKNOWN", "take(8) UNKNOWN", "count(4) 0");
        run("10", "", "back() STATE", "count(4) 0");
        run("11", "", "whose(-1) UNKNOWN", "whose(0) STATE", "whose(1) STATE", "whose(2) UNKNOWN");
        run("12", "", "by(-1) UNKNOWN", "by(0) STATE", "by(1) STATE", "by(2) UNKNOWN");
        run("13", "", "answer(-1) UNKNOWN", "answer(0) UNKNOWN", "answer(8) UNKNOWN");
        run("14", "", "lost() STATE");
        run("a page is no net yet", "", "page ab:ab", "begin(0) STATE", "take(0) UNKNOWN", "back() STATE", "whose(0) STATE",
            "by(0) STATE", "answer(0) UNKNOWN", "lost() STATE", "net() 1", "begin(0) 0", "whose(0) 0", "by(0) 0", "lost() NONE",
            "answer(0) NONE", "take(0) 1", "back() 0");
    }

    // JOIN (0) or CUT (1) is to move: who was. UNKNOWN: who.
    private static void beginWho() {
        run("8: who", NINE, "begin(MIN) UNKNOWN", "begin(-1) UNKNOWN", "count(5) 0", "begin(2) UNKNOWN", "begin(MAX) UNKNOWN",
            "begin(0) 0", "begin(1) 0", "begin(1) 1", "begin(-1) UNKNOWN", "begin(2) UNKNOWN", "count(5) 1", "begin(0) 1", "begin(0) 0");
        run("8: it counts for the first move", NINE, "begin(1) 0", "take(3) 1", "lane(3,2) 2", "count(5) 0");
        run("8: the latest counts", NINE, "begin(1) 0", "begin(0) 1", "take(3) 1", "lane(3,2) 1", "count(5) 1");
    }

    // STATE: a MOVE was made.
    private static void beginBehindAMove() {
        run("8: moves", "ab:ac,cb,cb", "begin(0) 0", "take(0) 1", "begin(0) STATE", "begin(1) STATE", "count(5) 1", "begin(2) UNKNOWN",
            "begin(-1) UNKNOWN", "take(1) 2", "begin(1) STATE", "back() 1", "begin(1) STATE", "back() 0", "begin(1) 0", "take(0) 1",
            "back() 0", "begin(1) 1");
        run("8: refused moves are none", "ab:ab,ac-", "take(1) STATE", "take(2) UNKNOWN", "begin(1) 0");
        run("8: an image without a move", NINE, "image() 0", "take(0) 1", "begin(1) STATE", "restore() 0", "begin(1) 0");
        run("8: an image with a move", NINE, "take(0) 1", "image() 1", "back() 0", "begin(1) 0", "restore() 1", "begin(1) STATE",
            "count(5) 1");
    }

    private static void beginWhenAllIsOver() {
        run("8: joined", "ab:ab+,cd", "begin(1) 0", "begin(0) 1", "begin(2) UNKNOWN");
        run("8: parted", "ab:ab-,cd", "begin(1) 0", "count(5) 1", "status() 2");
        run("8: joined by a move", "ab:ab", "take(0) 1", "begin(0) STATE");
    }

    // UNKNOWN: lane.
    private static void takeNumbers() {
        run("9: of one", "ab:ab", "take(-1) UNKNOWN", "take(1) UNKNOWN", "take(0) 1", "take(1) UNKNOWN", "take(-1) UNKNOWN");
        run("9: of nine", LAST, "take(9) UNKNOWN", "take(10) UNKNOWN", "take(MAX) UNKNOWN", "take(MIN) UNKNOWN", "take(32) UNKNOWN",
            "take(-32) UNKNOWN", "count(1) 9", "take(7) 1", "take(0) 2", "take(8) 3", "take(9) UNKNOWN");
        run("9: UNKNOWN ahead of STATE", "ab:ab-,cd", "take(1) STATE", "take(2) UNKNOWN", "take(-1) UNKNOWN");
    }

    // STATE: the LANE is not OPEN, too.
    private static void takeWhatIsNotOpen() {
        run("9: of the text", "ab:ac+,cd-,cb,cb", "take(0) STATE", "take(1) STATE", "count(4) 0", "count(5) 0", "take(2) 1");
        run("9: of moves", "ab:cd,cd,cd,ab,ab", "take(0) 1", "take(0) STATE", "count(5) 1", "take(1) 2", "take(0) STATE", "take(1) STATE",
            "count(5) 0", "lane(0,2) 1", "lane(1,2) 2", "back() 1", "take(1) 2");
    }

    // There are no moves any more when it is JOINED or PARTED.
    private static void takeWhenAllIsOver() {
        run("9: joined", "ab:ab+,cd", "take(1) STATE", "take(0) STATE", "count(1) 1");
        run("9: parted", "ab:ac,cd", "take(0) STATE", "take(1) STATE", "count(1) 2");
        run("9: joined by the move ahead", "ab:ac,cb,cd,ab", "take(0) 1", "take(2) 2", "status() 0", "take(1) 3", "status() 1",
            "take(3) STATE", "count(4) 3", "count(5) 1", "back() 2", "take(3) 3", "status() 1");
        run("9: parted by the move ahead", "ab:ac,cb,cd", "begin(1) 0", "take(1) 1", "status() 2", "take(0) STATE", "take(2) STATE",
            "count(5) 0", "back() 0", "take(2) 1");
    }

    // JOIN makes an OPEN LANE FAST, CUT cuts one; JOIN is to move at first.
    private static void takeByTurns() {
        run("9: turns", LAST, "take(0) 1", "lane(0,2) 1", "take(1) 2", "lane(1,2) 2", "take(2) 3", "lane(2,2) 1", "take(3) 4",
            "lane(3,2) 2", "count(1) 5", "count(2) 2", "count(3) 2");
        run("9: turns, CUT first", LAST, "begin(1) 0", "take(7) 1", "lane(7,2) 2", "take(6) 2", "lane(6,2) 1", "count(5) 1");
    }

    private static void takeToTheLastLane() {
        run("9: nine moves", LAST, "take(0) 1", "take(1) 2", "take(2) 3", "take(3) 4", "take(4) 5", "take(5) 6", "take(6) 7",
            "take(7) 8", "status() 0", "count(1) 1", "take(8) 9", "status() 1", "count(1) 0", "take(8) STATE", "take(9) UNKNOWN",
            "back() 8", "status() 0", "lane(8,2) 0");
        run("9: nine moves, CUT first", LAST, "begin(1) 0", "take(0) 1", "take(1) 2", "take(2) 3", "take(3) 4", "take(4) 5", "take(5) 6",
            "take(6) 7", "take(7) 8", "status() 0", "take(8) 9", "status() 2", "lane(8,2) 2");
    }

    // STATE: no MOVE.
    private static void backToTheFirst() {
        run("10: none made", NINE, "back() STATE", "count(5) 0", "begin(1) 0", "back() STATE", "count(5) 1");
        run("10: one", LAST, "take(0) 1", "back() 0", "back() STATE", "count(5) 0", "count(1) 9");
        run("10: two", LAST, "begin(1) 0", "take(0) 1", "take(1) 2", "back() 1", "lane(1,2) 0", "lane(0,2) 2", "count(5) 0", "back() 0",
            "lane(0,2) 0", "count(5) 1", "back() STATE", "count(5) 1");
        run("10: not what the text told", "ab:cd+,cd-,cd,ab", "back() STATE", "take(2) 1", "back() 0", "back() STATE", "lane(0,2) 1",
            "lane(1,2) 2", "lane(2,2) 0");
        run("10: not beyond a new net", LAST, "take(0) 1", "take(1) 2", "page cd:cd", "net() 1", "back() STATE", "take(0) 1", "back() 0",
            "back() STATE");
    }

    private static void backFromTheEnd() {
        run("10: joined", "ab:ab,cd", "take(0) 1", "status() 1", "back() 0", "status() 0", "count(5) 0");
        run("10: parted", "ab:ab,cd", "begin(1) 0", "take(0) 1", "status() 2", "back() 0", "status() 0", "count(5) 1");
        run("10: joined from the text", "ab:ab+", "back() STATE", "status() 1");
        run("10: from nine", LAST, "take(0) 1", "take(1) 2", "take(2) 3", "take(3) 4", "take(4) 5", "take(5) 6", "take(6) 7", "take(7) 8",
            "take(8) 9", "back() 8", "back() 7", "back() 6", "back() 5", "back() 4", "back() 3", "back() 2", "back() 1", "back() 0",
            "back() STATE", "count(1) 9", "count(5) 0");
    }

    // UNKNOWN: who.
    private static void whoseWho() {
        run("11, 12: who", "ab:ab", "whose(-1) UNKNOWN", "whose(0) 0", "whose(1) 1", "whose(2) UNKNOWN", "whose(MIN) UNKNOWN",
            "whose(MAX) UNKNOWN", "by(-1) UNKNOWN", "by(0) 0", "by(1) 0", "by(2) UNKNOWN", "by(MIN) UNKNOWN", "by(MAX) UNKNOWN");
        run("11, 12: who, when all is over", "ab:ab+", "whose(2) UNKNOWN", "by(-1) UNKNOWN");
    }

    // 0 JOIN, 1 CUT (also if it is JOINED, PARTED).
    private static void whoseIsJoinedOrParted() {
        run("11: joined", "ab:ab+,cd", "whose(0) 0", "whose(1) 0");
        run("11: joined, no lane open", "ab:ab+", "whose(0) 0", "whose(1) 0");
        run("11: parted", "ab:ab-,cd", "whose(0) 1", "whose(1) 1");
        run("11: parted, no lane open", "ab:ab-", "whose(0) 1", "whose(1) 1");
        run("11: joined by a move", "ab:ab,cd", "whose(1) 1", "take(0) 1", "whose(0) 0", "whose(1) 0", "back() 0", "whose(1) 1");
        run("11: parted by a move", "ab:ab,cd", "begin(1) 0", "whose(0) 0", "take(0) 1", "whose(0) 1", "whose(1) 1", "back() 0",
            "whose(0) 0");
    }

    private static void whoseOfFewLanes() {
        run("11: one lane", "ab:ab", "whose(0) 0", "whose(1) 1");
        run("11: two beside each other", "ab:ab,ab", "whose(0) 0", "whose(1) 0");
        run("11: two in a row", "ab:ac,cb", "whose(0) 1", "whose(1) 1");
        run("11: two in a row, one fast", "ab:ac,cb+", "whose(0) 0", "whose(1) 1");
        run("11: two of each", "ab:ac,ac,cb,cb", "whose(0) 0", "whose(1) 0");
        run("11: two of one, one of the other", "ab:ac,ac,cb", "whose(0) 0", "whose(1) 1");
        run("11: nine", NINE, "whose(0) 0", "whose(1) 0");
        run("11: two ways", "ab:ac,cb,ad,db", "whose(0) 1", "whose(1) 1");
        run("11: two ways and a lane across", "ab:ac,cb,ad,db,cd", "whose(0) 0", "whose(1) 1");
        run("11: three in a row and three", "ab:ac,cd,db,ae,ef,fb", "whose(0) 1", "whose(1) 1");
    }

    // Whoever begins: whose() goes by its own who, not by who is to move.
    private static void whoseWhoeverBegins() {
        run("11: begin", "ab:ab,cd", "begin(0) 0", "whose(0) 0", "whose(1) 1", "by(0) 0", "by(1) 0", "begin(1) 0", "whose(0) 0",
            "whose(1) 1", "by(0) 0", "by(1) 0", "take(1) 1", "whose(0) 0", "whose(1) 1");
    }

    // The least LANE by which that one HAS IT.
    private static void byLeastAndGreatest() {
        run("12: the first", "ab:ab,cd,cd,cd,cd,cd,cd,cd,cd", "by(0) 0", "by(1) 0");
        run("12: the ninth", LAST, "by(0) 8", "by(1) 8");
        run("12: the eighth", "ab:cd,cd,cd,cd,cd,cd,cd,ab,cd", "by(0) 7", "by(1) 7");
        run("12: it need not help", "ab:cd,ab,ab", "by(0) 0", "by(1) NONE");
        run("12: nor harm", "ab:cd,ac,cb", "by(0) NONE", "by(1) 0");
        run("12: open ones alone", "ab:cd+,cd-,ab,ab", "by(0) 2", "whose(1) 0", "by(1) NONE");
        run("12: one of two has to be saved", "ab:ac,ac,cb", "by(0) 2", "by(1) 0");
        run("12: joined at once is not asked for", "ab:ac+,cb,cb,ad", "by(0) 1");
        run("12: the least, though a greater one joins", "ab:ad,ac+,cb,cb", "by(0) 0");
    }

    // NONE: by none (or nothing is to be moved).
    private static void byNone() {
        run("12: joined", "ab:ab+,cd", "by(0) NONE", "by(1) NONE");
        run("12: parted", "ab:ab-,cd", "by(0) NONE", "by(1) NONE");
        run("12: no lane open", "ab:ab+", "by(0) NONE", "by(1) NONE");
        run("12: JOIN by none", "ab:ac,cb", "by(0) NONE", "by(1) 0");
        run("12: CUT by none", "ab:ab,ab", "by(0) 0", "by(1) NONE");
        run("12: behind the last move", "ab:ab,cd", "by(1) 0", "take(0) 1", "by(0) NONE", "by(1) NONE", "back() 0", "by(0) 0");
    }

    // UNKNOWN: lane.
    private static void answerNumbers() {
        run("13: of two", "ab:ab,ab", "answer(-1) UNKNOWN", "answer(0) 1", "answer(1) 0", "answer(2) UNKNOWN", "answer(MIN) UNKNOWN",
            "answer(MAX) UNKNOWN", "answer(32) UNKNOWN");
        run("13: of nine", "ab:ab,cd,cd,cd,cd,cd,cd,cd,ab", "answer(0) 8", "answer(1) 0", "answer(7) 0", "answer(8) 0",
            "answer(9) UNKNOWN");
        run("13: UNKNOWN ahead of STATE", "ab:ab+", "answer(0) STATE", "answer(1) UNKNOWN", "answer(-1) UNKNOWN");
    }

    // STATE: the LANE is not OPEN, too.
    private static void answerWhatIsNotOpen() {
        run("13: of the text", "ab:ac+,cd-,cb,cb", "answer(0) STATE", "answer(1) STATE", "answer(2) 3", "answer(3) 2");
        run("13: of moves", "ab:cd,cd,ab,ab", "take(0) 1", "take(1) 2", "answer(0) STATE", "answer(1) STATE", "answer(2) 3",
            "back() 1", "answer(1) 2", "answer(0) STATE");
    }

    private static void answerWhenAllIsOver() {
        run("13: joined", "ab:ab+,cd", "answer(1) STATE");
        run("13: parted", "ab:ac,cd", "answer(0) STATE", "answer(1) STATE");
        run("13: by a move", "ab:ab,cd", "answer(1) 0", "take(0) 1", "answer(1) STATE", "back() 0", "answer(1) 0");
    }

    // The least OPEN LANE that JOIN can make fast then so that it HAS IT with CUT to move (it need not be JOINED yet);
    // none, if it is JOINED or PARTED behind the cut.
    private static void answerBehindTheCut() {
        run("13: parted behind it", "ab:ab", "answer(0) NONE");
        run("13: parted behind one, not behind the other", "ab:ab,cd", "answer(0) NONE", "answer(1) 0");
        run("13: none helps", "ab:ac,cb,cd", "answer(2) NONE", "answer(0) NONE");
        run("13: not joined yet", "ab:ac,ac,cb,cb", "answer(0) 1", "answer(1) 0", "answer(2) 3", "answer(3) 2");
        run("13: it need not help", "ab:cd,ab,ab,cd", "answer(3) 0", "answer(0) 1", "answer(1) 2", "answer(2) 1");
        run("13: not the cut one itself", "ab:ab,ab,ab", "answer(0) 1", "answer(1) 0", "answer(2) 0");
        run("13: nothing is done", "ab:ab,ab", "answer(0) 1", "lane(0,2) 0", "lane(1,2) 0", "count(4) 0", "count(5) 0");
    }

    // .. (now, whoever is to move).
    private static void answerWhoeverIsToMove() {
        run("13: JOIN and CUT", "ab:ab,ab,cd", "answer(0) 1", "answer(2) 0", "begin(1) 0", "answer(0) 1", "answer(2) 0", "take(2) 1",
            "answer(0) 1", "answer(1) 0");
    }

    // NONE.
    private static void lostNone() {
        run("14: no move", "ab:ab,cd", "lost() NONE", "begin(1) 0", "lost() NONE");
        run("14: joined from the text", "ab:ab+", "lost() NONE");
        run("14: parted from the text", "ab:ab-", "lost() NONE");
        run("14: the right move of JOIN", "ab:ab,cd", "take(0) 1", "lost() NONE");
        run("14: the right move of CUT", "ab:ab,cd", "begin(1) 0", "take(0) 1", "lost() NONE");
        run("14: one who had it not cannot lose it", "ab:ac,cb,cd", "take(2) 1", "take(0) 2", "status() 2", "lost() NONE");
        run("14: nor CUT", "ab:ab,ab,cd", "begin(1) 0", "take(2) 1", "take(0) 2", "status() 1", "lost() NONE");
        run("14: no matter which", "ab:ab,ab,cd,cd", "take(2) 1", "take(3) 2", "take(1) 3", "status() 1", "lost() NONE");
    }

    // The first MOVE (by number) of one who HAD IT ahead and had not behind.
    private static void lostTheFirst() {
        run("14: JOIN by its first", "ab:ab,cd", "take(1) 1", "lost() 0", "take(0) 2", "status() 2", "lost() 0", "back() 1", "lost() 0",
            "back() 0", "lost() NONE");
        run("14: CUT by its first", "ab:ab,cd", "begin(1) 0", "take(1) 1", "lost() 0", "take(0) 2", "status() 1", "lost() 0");
        run("14: CUT by the second move", "ab:ac,cb,cd", "take(2) 1", "lost() NONE", "take(0) 2", "lost() NONE", "back() 1", "back() 0",
            "page ab:ac,cb,cd,ce", "net() 4", "take(0) 1", "lost() NONE", "take(2) 2", "lost() 1", "take(3) 3", "lost() 1");
        run("14: each by one", "ab:ab,cd,cd,cd", "take(1) 1", "lost() 0", "take(2) 2", "lost() 0", "take(3) 3", "lost() 0",
            "take(0) 4", "status() 2", "lost() 0");
        run("14: not by the image's moves", "ab:ab,cd", "image() 0", "take(1) 1", "lost() 0", "restore() 0", "lost() NONE", "take(0) 1",
            "lost() NONE");
        run("14: by who began", "ab:ab,cd,cd", "begin(1) 0", "take(0) 1", "lost() NONE", "back() 0", "begin(0) 1", "take(1) 1", "lost() 0");
    }

    private static void lostByTheLatest() {
        // CUT begins; lanes 2 to 7 are no matter; CUT takes one of two, and JOIN leaves the other with two lanes left.
        run("14: the eighth of nine", "ab:ab,ab,cd,cd,cd,cd,cd,cd,cd", "begin(1) 0", "take(2) 1", "take(3) 2", "take(4) 3", "take(5) 4",
            "take(6) 5", "take(7) 6", "take(0) 7", "lost() NONE", "take(8) 8", "lost() 7", "status() 0", "take(1) 9", "status() 2",
            "lost() 7", "back() 8", "lost() 7", "back() 7", "lost() NONE", "take(1) 8", "status() 1", "lost() NONE");
    }

    private static void lostAlsoFromTheText() {
        run("14: fast ones of the text", "ab:ac+,cb,cd-,ce", "take(3) 1", "lost() 0", "back() 0", "take(1) 1", "lost() NONE");
        run("14: cut ones of the text", "ab:ab-,ab,ab,cd", "begin(1) 0", "take(1) 1", "lost() NONE", "take(3) 2", "lost() 1");
    }
}
