/** The edges that the document names of sets of lanes (promises 15 to 19), one method a sentence. */
public final class EdgesOfSetsTest {
    private static final String NINE = "ab:ab,ab,ab,ab,ab,ab,ab,ab,ab";
    // Only the last lane matters.
    private static final String LAST = "ab:cd,cd,cd,cd,cd,cd,cd,cd,ab";
    private static final Check CHECK = new Check("EdgesOfSetsTest");

    public static void main(String[] args) {
        withoutNet();
        waysNone();
        waysOfLeastBits();
        waysWithFastOnes();
        waysOfAllPlaces();
        waysBehindMoves();
        partingWhat();
        partingWhenAllIsOver();
        partingFewest();
        partingOfLeastBits();
        mendWhat();
        mendNothing();
        mendInVain();
        mendWhichOne();
        mendTheTenthLane();
        mendTwentyTimes();
        mendRefusedIsNotDone();
        boughtWhat();
        boughtNothing();
        boughtByNone();
        boughtLeastCost();
        boughtOfLeastBits();
        likelyWhat();
        likelyWhenAllIsOver();
        likelyOfOneLane();
        likelyOfNineLanes();
        likelyByWhoIsToMove();
        likelyBehindAnotherOne();
        CHECK.end();
    }

    private static void run(String what, String net, String... steps) {
        Calls.run(CHECK, what + ", " + net, net.isEmpty() ? new CutsOrFast() : Check.made(net), steps);
    }

    // STATE: no NET; it is told ahead of OUTSIDE.
    private static void withoutNet() {
        run("15", "", "ways() STATE");
        run("16", "", "parting(0) STATE", "parting(1) STATE", "parting(-1) STATE", "parting(2) STATE");
        run("17", "", "mend(0) STATE", "mend(2) STATE", "mend(-1) STATE", "mend(3) STATE", "count(9) 0");
        run("18", "", "bought(0) STATE", "bought(1) STATE", "bought(-1) STATE", "bought(2) STATE");
        run("19", "", "likely(0,0) STATE", "likely(2,1) STATE", "likely(-1,0) STATE", "likely(3,0) STATE", "likely(0,2) STATE");
        run("a page is no net yet", "", "page ab:ab", "ways() STATE", "parting(0) STATE", "mend(0) STATE", "bought(0) STATE",
            "likely(0,0) STATE", "net() 1", "ways() NONE", "parting(0) 1", "mend(0) 1", "bought(0) 1", "likely(0,0) 1");
    }

    // NONE: there is none.
    private static void waysNone() {
        run("15: one lane", "ab:ab", "ways() NONE");
        run("15: two", "ab:ab,ab", "ways() 1");
        run("15: two in a row", "ab:ac,cb", "ways() NONE");
        run("15: one lane short of two trees", "ab:ac,cb,ca", "ways() NONE");
        run("15: just two trees", "ab:ac,cb,ca,bc", "ways() 3");
        run("15: the ends have no lane", "ab:cd,cd", "ways() NONE");
        run("15: the one end has none", "ab:bc,bc", "ways() NONE");
        run("15: the other end has none", "ab:ac,ac", "ways() NONE");
        run("15: parted", "ab:ab-", "ways() NONE");
        run("15: two ways, but not to all places", "ab:ab,ab,bc", "ways() NONE");
        run("15: and to all", "ab:ab,ab,bc,bc", "ways() 5");
    }

    // The set of least bits.
    private static void waysOfLeastBits() {
        run("15: of nine", NINE, "ways() 1");
        run("15: the two last of nine", "ab:ab-,ab-,ab-,ab-,ab-,ab-,ab-,ab,ab", "ways() 128");
        run("15: two trees of three lanes", "ab:ac,cd,db,ab,ac,cd,db", "ways() 7");
        run("15: not the three least, which do not reach b", "ab:ac,ac,ac,cb,cb", "ways() 9");
        run("15: the two least", "ab:ab,bc,ca,ab,bc", "ways() 3");
        run("15: not the two least, as the others would not do", "ab:ac,cb,ca,ac", "ways() NONE");
        run("15: not the two least, which are alike", "ab:ab,ab,bc,cb", "ways() 5");
    }

    // .. so that they do by the others that are not CUT and by FAST ones, too.
    private static void waysWithFastOnes() {
        run("15: one fast lane", "ab:ab+", "ways() 1");
        run("15: a fast one behind an open one", "ab:ab,ab+", "ways() 1");
        run("15: a fast one behind a cut one", "ab:ab-,ab+", "ways() 2");
        run("15: the set needs the fast one itself", "ab:ac+,cb,cb", "ways() 3");
        run("15: the open one is in one of them alone", "ab:ac+,cb", "ways() NONE");
        run("15: five fast ones", "ab:ac+,cd+,de+,ef+,fb+", "ways() 31");
        run("15: of nine the five last, fast", "ab:ab-,ab-,ab-,ab-,ac+,cd+,de+,ef+,fb+", "ways() 496");
        run("15: four fast and two open", "ab:ac+,cd+,de+,ef+,fb,fb", "ways() 31");
        run("15: four fast and one open", "ab:ac+,cd+,de+,ef+,fb", "ways() NONE");
    }

    // .. by which all PLACES that have a LANE (CUT ones, too) and THE ENDS hang together.
    private static void waysOfAllPlaces() {
        run("15: a place of a cut lane", "ab:ab,ab,bc-", "ways() NONE");
        run("15: a place of a cut lane, the first one", "ab:bc-,ab,ab", "ways() NONE");
        run("15: a cut lane between places that hang together", "ab:ab,ab,ba-", "ways() 1");
        run("15: two places of a cut lane", "ab:ab,ab,cd-", "ways() NONE");
        run("15: places without a lane are no matter", "ab:ab,ab", "ways() 1");
        run("15: joined, but not to all", "ab:ab+,bc", "ways() NONE");
        run("15: joined, and twice to all", "ab:ab+,bc,bc", "ways() 3");
    }

    private static void waysBehindMoves() {
        run("15: behind a cut", "ab:ab,ab,ab", "begin(1) 0", "take(0) 1", "ways() 2", "take(1) 2", "ways() 2", "back() 1", "back() 0",
            "ways() 1");
        run("15: behind the last cut", "ab:ab,ab", "begin(1) 0", "take(0) 1", "ways() NONE", "take(1) 2", "ways() 2");
    }

    // OUTSIDE: what.
    private static void partingWhat() {
        run("16: what", "ab:ab,ab", "parting(-1) OUTSIDE", "parting(0) 2", "parting(1) 3", "parting(2) OUTSIDE", "parting(MIN) OUTSIDE",
            "parting(MAX) OUTSIDE");
        run("16: what, when there is none", "ab:ab+", "parting(-1) OUTSIDE", "parting(0) NONE", "parting(1) NONE", "parting(2) OUTSIDE");
    }

    // NONE: there is none. Nothing need be cut, if it is PARTED.
    private static void partingWhenAllIsOver() {
        run("16: joined", "ab:ab+,ab,ab", "parting(0) NONE", "parting(1) NONE");
        run("16: parted", "ab:ab-,cd,ac", "parting(0) 0", "parting(1) 0");
        run("16: joined by a move", "ab:ab,ab", "parting(0) 2", "take(0) 1", "parting(0) NONE", "back() 0", "begin(1) 0", "take(0) 1",
            "parting(0) 1", "parting(1) 2", "back() 0", "parting(1) 3");
    }

    // Fewest.
    private static void partingFewest() {
        run("16: one", "ab:ab", "parting(0) 1", "parting(1) 1");
        run("16: the ninth alone", LAST, "parting(0) 1", "parting(1) 256");
        run("16: all nine", NINE, "parting(0) 9", "parting(1) 511");
        run("16: eight, one is cut", "ab:ab,ab,ab,ab,ab-,ab,ab,ab,ab", "parting(0) 8", "parting(1) 495");
        run("16: one of great bits rather than two of small ones", "ab:ac,ac,cb", "parting(0) 1", "parting(1) 4");
        run("16: two of great bits, as the one is fast", "ab:ac+,cb,cb", "parting(0) 2", "parting(1) 6");
        run("16: open ones alone", "ab:ac,ac,ac,cb+,cb", "parting(0) 3", "parting(1) 7");
        run("16: two rather than three", "ab:ac,ac,ac,cb,cb", "parting(0) 2", "parting(1) 24");
        run("16: costs are no matter", "ab:ac,ac,cb9", "parting(0) 1", "parting(1) 4");
    }

    // Of like ones of least bits.
    private static void partingOfLeastBits() {
        run("16: each of five parts", "ab:ac,cd,de,ef,fb", "parting(0) 1", "parting(1) 1");
        run("16: the other way round", "ab:fb,ef,de,cd,ac", "parting(0) 1", "parting(1) 1");
        run("16: two like ones", "ab:ac,cb,ac,cb", "parting(0) 2", "parting(1) 5");
        run("16: the first is no matter", "ab:cd,ae,eb", "parting(0) 1", "parting(1) 2");
    }

    // OUTSIDE: what.
    private static void mendWhat() {
        run("17: what", "ab:ab", "mend(-1) OUTSIDE", "mend(0) 1", "mend(1) 0", "mend(2) 1", "mend(3) OUTSIDE", "mend(MIN) OUTSIDE",
            "mend(MAX) OUTSIDE", "count(9) 3");
    }

    // 0, if JOIN HAS IT though CUT begins; the PLACES of the one (NONE).
    private static void mendNothing() {
        run("17: joined", "ab:ab+", "mend(0) 0", "mend(1) NONE", "mend(2) NONE");
        run("17: safe", "ab:ab,ab", "mend(0) 0", "mend(1) NONE", "mend(2) NONE");
        run("17: safe, whoever is to move", "ab:ab,ab", "begin(1) 0", "mend(0) 0");
        run("17: safe behind JOIN's move, not ahead", "ab:ac,cb,cb", "mend(0) 1", "take(0) 1", "mend(0) 0", "back() 0", "mend(0) 1");
    }

    // Else 2.
    private static void mendInVain() {
        run("17: parted", "ab:ab-", "mend(0) 2", "mend(1) NONE", "mend(2) NONE");
        run("17: parted, open lanes elsewhere", "ab:cd,de,ec", "mend(0) 2");
        run("17: two in a row", "ab:ac,cb", "mend(0) 2", "mend(1) NONE", "mend(2) NONE");
        run("17: one", "ab:ab", "mend(0) 1");
        run("17: two in a row, one fast", "ab:ac,cb+", "mend(0) 1", "mend(1) 0", "mend(2) 1");
    }

    // Between two PLACES, one of the six each .. the first by its lesser PLACE, then the greater one.
    private static void mendWhichOne() {
        for (int lesser = 0; lesser < 6; lesser++) {
            for (int greater = lesser + 1; greater < 6; greater++) {
                String ends = "" + (char) ('a' + lesser) + (char) ('a' + greater);
                String turned = "" + ends.charAt(1) + ends.charAt(0);
                run("17: the ends alone", ends + ":" + ends, "mend(0) 1", "mend(1) " + lesser, "mend(2) " + greater);
                run("17: the ends alone, turned", turned + ":" + ends, "mend(1) " + lesser, "mend(2) " + greater);
            }
        }
        // All of ac, af, bc and bf would do.
        run("17: of four", "af:ab+,bc,cf+", "mend(0) 1", "mend(1) 0", "mend(2) 2");
        // All of bc, bf, ce and ef would do.
        run("17: the lesser place counts first", "ef:eb+,bc,cf+", "mend(0) 1", "mend(1) 1", "mend(2) 2");
        run("17: a place that has no lane yet does not help", "ab:ac,cd,db", "mend(0) 2");
    }

    private static void mendTheTenthLane() {
        run("17: nine and one more", LAST, "mend(0) 1", "mend(1) 0", "mend(2) 1", "count(0) 9", "count(1) 9", "by(0) 8", "ways() NONE",
            "parting(1) 256");
        run("17: nine, all but one cut", "ef:ab-,ab-,ab-,ab-,ab-,ab-,ab-,ab-,fe", "mend(0) 1", "mend(1) 4", "mend(2) 5", "lane(8,2) 0",
            "whose(0) 0", "whose(1) 1");
        run("17: nine, one more is not enough", "ab:cd,ce,cf,de,df,ef,cd,ce,cf", "mend(0) 2");
    }

    // STATE: mend() was done 20 times ever (it counts on, whatever is read or restored).
    private static void mendTwentyTimes() {
        CutsOrFast x = Check.made("ab:ab");
        for (int i = 0; i < 19; i++) {
            CHECK.due("17: time " + i, x.mend(0), 1);
        }
        Calls.run(CHECK, "17: the twentieth", x, "count(9) 19", "mend(1) 0", "count(9) 20", "mend(0) STATE", "mend(1) STATE",
            "mend(2) STATE", "mend(-1) STATE", "mend(3) STATE", "count(9) 20", "page ab:ab,ab", "net() 2", "mend(0) STATE",
            "count(9) 20", "image() 0", "restore() 0", "mend(0) STATE");
        x = Check.made("ab:ab,ab,cd");
        for (int net = 0; net < 10; net++) {
            Calls.run(CHECK, "17: two of each of ten nets, " + net, x, "image() 0", "mend(0) 0", "take(2) 1", "mend(2) NONE",
                "restore() 0", "count(9) " + (2 * net + 2), "page ab:ab,ab,cd", "net() 3");
        }
        Calls.run(CHECK, "17: no more", x, "mend(0) STATE", "count(9) 20", "whose(1) 0");
    }

    // Refusals change nothing.
    private static void mendRefusedIsNotDone() {
        CutsOrFast x = new CutsOrFast();
        for (int i = 0; i < 25; i++) {
            CHECK.due("17: without a net", x.mend(0), -103);
        }
        Calls.run(CHECK, "17: not counted", x, "count(9) 0", "page ab:ab", "net() 1");
        for (int i = 0; i < 25; i++) {
            CHECK.due("17: what 3", x.mend(3), -102);
        }
        Calls.run(CHECK, "17: nor these", x, "count(9) 0", "mend(0) 1", "count(9) 1");
    }

    // OUTSIDE: what.
    private static void boughtWhat() {
        run("18: what", "ab:ab7", "bought(-1) OUTSIDE", "bought(0) 7", "bought(1) 1", "bought(2) OUTSIDE", "bought(MIN) OUTSIDE",
            "bought(MAX) OUTSIDE");
        run("18: what, when there is none", "ab:ab-", "bought(-1) OUTSIDE", "bought(0) NONE", "bought(1) NONE", "bought(2) OUTSIDE");
    }

    private static void boughtNothing() {
        run("18: joined", "ab:ab+,cd", "bought(0) 0", "bought(1) 0");
        run("18: safe", "ab:ab,ab", "bought(0) 0", "bought(1) 0");
        run("18: safe by one lane", "ab:ac,ac,cb", "bought(0) 1", "bought(1) 4");
        run("18: safe behind JOIN's move", "ab:ab4", "bought(0) 4", "take(0) 1", "bought(0) 0", "bought(1) 0", "back() 0", "bought(1) 1");
    }

    // NONE: by none.
    private static void boughtByNone() {
        run("18: parted", "ab:ac,cb-", "bought(0) NONE", "bought(1) NONE");
        run("18: parted, no lane open", "ab:ab-", "bought(0) NONE", "bought(1) NONE");
        run("18: parted by a move", "ab:ab,cd", "begin(1) 0", "bought(0) 1", "take(0) 1", "bought(0) NONE", "bought(1) NONE", "back() 0",
            "bought(1) 1");
    }

    // A set of OPEN LANES of least COST together.
    private static void boughtLeastCost() {
        run("18: all of five", "ab:ac9,cd9,de9,ef9,fb9", "bought(0) 45", "bought(1) 31");
        run("18: four of five, one is fast", "ab:ac9,cd9,de+9,ef9,fb9", "bought(0) 36", "bought(1) 27");
        run("18: the ninth alone", "ab:cd,cd,cd,cd,cd,cd,cd,cd,ab9", "bought(0) 9", "bought(1) 256");
        run("18: one dear lane or a part of three, 1", "ab:ac,cd,db,ab1", "bought(0) 1", "bought(1) 8");
        run("18: .., 2", "ab:ac,cd,db,ab2", "bought(0) 2", "bought(1) 3");
        run("18: .., 3", "ab:ac,cd,db,ab3", "bought(0) 2", "bought(1) 3");
        run("18: two cheap ones rather than one dear", "ab:ab5,ac2,cd2,db2", "bought(0) 4", "bought(1) 6");
        run("18: one rather than two, as it is cheaper", "ab:ab3,ac2,cd2,db2", "bought(0) 3", "bought(1) 1");
    }

    // Of like ones of least bits.
    private static void boughtOfLeastBits() {
        run("18: one or two lanes of like cost", "ab:ab4,ac2,cd2,db2", "bought(0) 4", "bought(1) 1");
        run("18: two lanes of lesser bits", "ab:ac2,cd2,db2,ab4", "bought(0) 4", "bought(1) 3");
        run("18: which two of three", "ab:ac3,cd2,db2,ab9", "bought(0) 4", "bought(1) 6");
        run("18: each of two", "ab:ac,cb,ab", "bought(0) 1", "bought(1) 1");
    }

    // OUTSIDE: how, part.
    private static void likelyWhat() {
        run("19: how", "ab:ab,cd", "likely(-1,0) OUTSIDE", "likely(0,0) 1", "likely(1,0) 1", "likely(2,0) 1", "likely(3,0) OUTSIDE",
            "likely(MIN,0) OUTSIDE", "likely(MAX,1) OUTSIDE");
        run("19: part", "ab:ab,cd", "likely(0,-1) OUTSIDE", "likely(0,0) 1", "likely(0,1) 1", "likely(0,2) OUTSIDE", "likely(1,1) 2",
            "likely(2,1) 2", "likely(2,2) OUTSIDE", "likely(2,-1) OUTSIDE", "likely(0,MIN) OUTSIDE", "likely(0,MAX) OUTSIDE",
            "likely(3,2) OUTSIDE", "likely(-1,-1) OUTSIDE");
    }

    private static void likelies(String what, String net, int who, String... fractions) {
        CutsOrFast x = Check.made(net);
        x.begin(who);
        for (int how = 0; how < 3; how++) {
            String fraction = x.likely(how, 0) + "/" + x.likely(how, 1);
            CHECK.due("19: " + what + ", " + net + ", how " + how + ": " + fraction, fraction.equals(fractions[how]));
        }
    }

    // In lowest terms.
    private static void likelyWhenAllIsOver() {
        likelies("joined", "ab:ab+", 0, "1/1", "1/1", "1/1");
        likelies("joined, others open", "ab:ab+,cd,ef,ab", 1, "1/1", "1/1", "1/1");
        likelies("parted", "ab:ab-", 0, "0/1", "0/1", "0/1");
        likelies("parted, others open", "ab:ac,cd,ef", 1, "0/1", "0/1", "0/1");
        run("19: joined by a move", "ab:ab,cd", "likely(1,0) 1", "likely(1,1) 2", "take(0) 1", "likely(1,0) 1", "likely(1,1) 1", "back() 0",
            "take(1) 1", "likely(1,0) 0", "likely(1,1) 1", "likely(2,0) 0", "take(0) 2", "likely(0,0) 0", "likely(0,1) 1");
    }

    private static void likelyOfOneLane() {
        likelies("JOIN takes it", "ab:ab", 0, "1/1", "1/1", "1/1");
        likelies("CUT takes it", "ab:ab", 1, "0/1", "0/1", "0/1");
        likelies("two, one no matter", "ab:ab,cd", 0, "1/1", "1/2", "1/2");
        likelies("two, one no matter, CUT first", "ab:ab,cd", 1, "1/2", "0/1", "1/2");
        likelies("two beside each other", "ab:ab,ab", 1, "1/1", "1/1", "1/1");
        likelies("two in a row", "ab:ac,cb", 0, "0/1", "0/1", "0/1");
    }

    private static void likelyOfNineLanes() {
        likelies("all nine beside each other", NINE, 1, "1/1", "1/1", "1/1");
        // How 1: by the first move or never; how 2: JOIN has five of the nine moves, or four.
        likelies("the ninth alone", LAST, 0, "1/1", "1/9", "5/9");
        likelies("the ninth alone, CUT first", LAST, 1, "8/9", "0/1", "4/9");
        // Eight lanes: half of the moves each.
        likelies("the eighth alone", "ab:cd,cd,cd,cd,cd,cd,cd,ab", 0, "1/1", "1/8", "1/2");
        likelies("the eighth alone, CUT first", "ab:cd,cd,cd,cd,cd,cd,cd,ab", 1, "7/8", "0/1", "1/2");
    }

    // From now on, by who is to move.
    private static void likelyByWhoIsToMove() {
        run("19: who is to move", "ab:ab,cd,ce", "likely(0,0) 1", "likely(0,1) 1", "begin(1) 0", "likely(0,0) 2", "likely(0,1) 3",
            "begin(0) 1", "likely(0,1) 1", "take(1) 1", "likely(0,0) 1", "likely(0,1) 2", "take(2) 2", "likely(0,0) 1", "likely(0,1) 1",
            "likely(2,1) 1", "back() 1", "back() 0", "likely(2,0) 2", "likely(2,1) 3");
    }

    // What was found for one who is to move must not be told for the other one, nor for another net.
    private static void likelyBehindAnotherOne() {
        run("19: all is the same but who is to move", "ab:ab,cd,ce", "likely(0,1) 1", "likely(1,1) 3", "likely(2,1) 3", "begin(1) 0",
            "likely(2,0) 1", "likely(1,0) 0", "likely(0,0) 2", "begin(0) 1", "likely(1,0) 1", "likely(0,0) 1", "likely(2,0) 2");
        run("19: an image with the other one", "ab:ab,cd,ce", "begin(1) 0", "image() 0", "likely(2,0) 1", "begin(0) 1", "likely(2,0) 2",
            "restore() 0", "likely(2,0) 1", "likely(0,1) 3", "take(1) 1", "likely(0,1) 1", "likely(1,1) 2", "likely(2,1) 2");
        run("19: another net", "ab:ab,cd,ce", "likely(2,0) 2", "likely(1,1) 3", "page ab:cd,ce,ab", "net() 3", "take(1) 1",
            "likely(0,1) 2", "likely(2,1) 2", "page ab:cd,ce,cf", "net() 3", "likely(0,0) 0", "likely(2,0) 0");
        run("19: as many lanes, but another net", "ab:ab,ac,cd", "likely(1,0) 1", "likely(1,1) 3", "page ab:ac,cb,cd", "net() 3",
            "likely(1,0) 0", "likely(1,1) 1");
        run("19: behind mend()", "ab:ab,cd", "likely(1,1) 2", "mend(0) 1", "likely(1,1) 2", "likely(2,1) 2", "begin(1) 0", "mend(0) 1",
            "likely(0,1) 2", "likely(1,0) 0", "whose(0) 0", "whose(1) 1");
    }
}
