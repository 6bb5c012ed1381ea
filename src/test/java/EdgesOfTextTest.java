/** The edges that the document names of THE PAGE, THE NET and what it is (promises 1 to 7), one method a sentence. */
public final class EdgesOfTextTest {
    private static final int OUTSIDE = -102, STATE = -103, FULL = -104;
    private static final String LONGEST = "fe:ab+1,bc-2,cd+3,de-4,ef+5,fa-6,ac+7,bd-8,ce+9";
    private static final Check CHECK = new Check("EdgesOfTextTest");

    public static void main(String[] args) {
        newObject();
        codesOfLetters();
        upToEight();
        untilAByteThatIsZero();
        aboveFifty();
        outsideAheadOfFull();
        blankOfAnyLength();
        faultOfEachCodeAtEachPlace();
        faultBehindTheLongest();
        faultOfTheFirst();
        netAtEachLength();
        oneToNineLanes();
        costs();
        signs();
        anotherNetIsGone();
        noNetIsRead();
        laneNumbers();
        laneWhat();
        laneOfShorterNet();
        joined();
        parted();
        statusBehindMoves();
        CHECK.end();
    }

    private static void run(String what, CutsOrFast x, String... steps) {
        Calls.run(CHECK, what, x, steps);
    }

    private static CutsOrFast withLetters(int many) {
        CutsOrFast x = new CutsOrFast();
        Check.write(x, "a".repeat(many));
        return x;
    }

    // No NET, no PLAYERS.
    private static void newObject() {
        run("1: no net", new CutsOrFast(), "count(8) 0", "count(0) 0", "status() STATE", "whose(0) STATE", "lane(0,0) UNKNOWN");
        run("1: no players", new CutsOrFast(), "count(6) 0", "as(0,0) UNKNOWN", "move(0,0) UNKNOWN", "game(0,0,0,0) UNKNOWN");
        run("1: no letters, no image", new CutsOrFast(), "fault() 0", "blank() 0", "restore() STATE", "net() STATE");
        run("1: the first of each", new CutsOrFast(), "player(0) 0", "as(0,0) 0", "page ab:ab", "net() 1", "status() 0");
    }

    // OUTSIDE: a byte above 126.
    private static void codesOfLetters() {
        int[] outside = {127, 128, 129, 200, 254, 255};
        for (int place = 0; place < 8; place++) {
            long ahead = place == 0 ? 0 : Check.packed("abcdefab".substring(0, place));
            for (int code : new int[] {1, 2, 96, 125, 126}) {
                CutsOrFast x = new CutsOrFast();
                CHECK.due("2: code " + code + " at " + place, x.letters(ahead | (long) code << 8 * place), place + 1);
            }
            for (int code : outside) {
                CutsOrFast x = new CutsOrFast();
                CHECK.due("2: code " + code + " at " + place, x.letters(ahead | (long) code << 8 * place), OUTSIDE);
                CHECK.due("2: none came", x.count(7), 0);
            }
        }
        run("2: as whole numbers", new CutsOrFast(), "letters(126) 1", "letters(127) OUTSIDE", "letters(128) OUTSIDE",
            "letters(255) OUTSIDE", "letters(256) OUTSIDE", "letters(257) 3", "letters(-1) OUTSIDE",
            "letters(-9223372036854775808) OUTSIDE", "letters(9223372036854775807) OUTSIDE", "count(7) 3");
    }

    // Letters come behind THE PAGE, up to eight, the lowest byte first.
    private static void upToEight() {
        for (int many = 0; many <= 8; many++) {
            CutsOrFast x = withLetters(1);
            CHECK.due("2: " + many + " behind one", x.letters(Check.packed("bcdefabc".substring(0, many))), 1 + many);
        }
        run("2: the lowest byte first", new CutsOrFast(), "letters('ab:ab1') 6", "net() 1", "lane(0,0) 0", "lane(0,1) 1",
            "lane(0,3) 1");
        run("2: behind the page", new CutsOrFast(), "letters('a') 1", "letters('b:a') 4", "letters('b') 5",
            "net() 1", "lane(0,0) 0", "lane(0,1) 1");
    }

    // .. until a byte that is 0 .. OUTSIDE: one behind a 0 that is not 0.
    private static void untilAByteThatIsZero() {
        run("2: no letter", withLetters(3), "letters(0) 3", "fault() 1");
        for (int zero = 0; zero < 8; zero++) {
            long ahead = zero == 0 ? 0 : Check.packed("abcdefab".substring(0, zero));
            CHECK.due("2: 0 from " + zero, new CutsOrFast().letters(ahead), zero);
            for (int place = zero + 1; place < 8; place++) {
                CutsOrFast x = new CutsOrFast();
                CHECK.due("2: 0 at " + zero + ", not at " + place, x.letters(ahead | 1L << 8 * place), OUTSIDE);
                CHECK.due("2: none came", x.count(7), 0);
            }
        }
    }

    // FULL: above 50.
    private static void aboveFifty() {
        for (int had = 41; had <= 50; had++) {
            for (int more = 0; more <= 8; more++) {
                CutsOrFast x = withLetters(had);
                boolean full = had + more > 50;
                CHECK.due("2: " + more + " behind " + had, x.letters(Check.packed("bbbbbbbb".substring(0, more))),
                    full ? FULL : had + more);
                CHECK.due("2: " + more + " behind " + had + ", counted", x.count(7), full ? had : had + more);
            }
        }
        CutsOrFast x = withLetters(49);
        run("2: a refused one is not there", x, "letters('ab') FULL", "letters('a') 50", "letters('a') FULL", "blank() 50",
            "letters('a') 1");
        x = new CutsOrFast();
        Check.write(x, LONGEST);
        run("2: it is empty behind net()", x, "letters('abcd') FULL", "net() 9", "letters('a') 1");
    }

    private static void outsideAheadOfFull() {
        run("2: OUTSIDE ahead of FULL", withLetters(50), "letters('a') FULL", "letters(127) OUTSIDE", "letters(256) OUTSIDE",
            "letters(0) 50", "count(7) 50");
    }

    // THE PAGE is empty: how many letters it had.
    private static void blankOfAnyLength() {
        for (int had : new int[] {0, 1, 8, 9, 49, 50}) {
            run("3: " + had, withLetters(had), "blank() " + had, "count(7) 0", "fault() 0", "blank() 0");
        }
        CutsOrFast x = Check.made("ab:ab");
        run("3: the net stays", x, "blank() 0", "count(0) 1", "page ab", "blank() 2", "count(0) 1", "status() 0");
    }

    /** Which letters a net can have behind a sound text, told apart from the class by hand. */
    private static String soundBehind(String text) {
        String places = "abcdef";
        int comma = text.lastIndexOf(',');
        int in = text.length() - Math.max(3, comma + 1);
        if (text.length() < 2 || text.length() >= 3 && in < 2) {
            boolean second = text.length() == 1 || text.length() >= 3 && in == 1;
            return second ? places.replace(text.substring(text.length() - 1), "") : places;
        }
        if (text.length() == 2) {
            return ":";
        }
        int lanes = text.split(",").length;
        char last = text.charAt(text.length() - 1);
        String end = lanes < 9 ? "," : "";
        if (places.indexOf(last) >= 0) {
            return "+-123456789" + end;
        }
        return last == '+' || last == '-' ? "123456789" + end : end;
    }

    // The place of the first letter of THE PAGE that no NET has there, behind those ahead of it; how many letters it has,
    // if there is none.
    private static void faultOfEachCodeAtEachPlace() {
        String[] whole = {LONGEST, "ab:cd,ef,fe,dc,ba,ab,ac,ad,ae", "cd:ab1,ab2,ab3,ab4,ab5,ab6,ab7,ab8,ab9",
            "af:fa+,fa-,fa+,fa-,fa+,fa-,fa+,fa-,fa+"};
        for (String text : whole) {
            for (int length = 0; length <= text.length(); length++) {
                String ahead = text.substring(0, length);
                String sound = soundBehind(ahead);
                CutsOrFast x = null;
                for (int code = 1; code <= 126; code++) {
                    // A new one now and then: an object is for 512 calls.
                    x = code % 40 == 1 ? new CutsOrFast() : x;
                    Check.write(x, ahead + (char) code);
                    CHECK.due("4: code " + code + " behind " + ahead, x.fault(), sound.indexOf(code) >= 0 ? length + 1 : length);
                    CHECK.due("3: all of it", x.blank(), length + 1);
                }
            }
        }
    }

    private static void faultBehindTheLongest() {
        for (int length = 46; length <= 50; length++) {
            CutsOrFast x = new CutsOrFast();
            Check.write(x, (LONGEST + ",ab").substring(0, length));
            CHECK.due("4: of " + length, x.fault(), Math.min(length, 47));
            CHECK.due("4: the page is left", x.count(7), length);
        }
    }

    private static void faultOfTheFirst() {
        String[] texts = {"gg", "ab:aa,aa", "aa:aa", "ab,:ab", "ab::ab", "ab:ab+-+", "ab:ab10", "ab:ab,,ab", "ab:ab ,ab"};
        int[] first = {0, 4, 1, 2, 3, 6, 6, 6, 5};
        for (int i = 0; i < texts.length; i++) {
            CutsOrFast x = new CutsOrFast();
            Check.write(x, texts[i]);
            CHECK.due("4: " + texts[i], x.fault(), first[i]);
            CHECK.due("5: " + texts[i], x.net(), STATE);
            CHECK.due("5: the page is left", x.count(7), texts[i].length());
        }
    }

    // STATE: it is none.
    private static void netAtEachLength() {
        for (int length = 0; length <= LONGEST.length(); length++) {
            String text = LONGEST.substring(0, length);
            CutsOrFast x = new CutsOrFast();
            Check.write(x, text);
            CHECK.due("4: " + text, x.fault(), length);
            boolean whole = text.matches("fe:.*[a-f][a-f][+-]?[1-9]?");
            CHECK.due("5: " + text, x.net(), whole ? text.split(",").length : STATE);
            CHECK.due("5: page behind " + text, x.count(7), whole ? 0 : length);
            CHECK.due("5: read " + text, x.count(8), whole ? 1 : 0);
        }
    }

    // Then one to nine LANES (numbered from 0).
    private static void oneToNineLanes() {
        StringBuilder text = new StringBuilder("ab:");
        for (int lanes = 0; lanes <= 10; lanes++) {
            CutsOrFast x = new CutsOrFast();
            Check.write(x, text.toString());
            boolean right = lanes >= 1 && lanes <= 9;
            CHECK.due("5: lanes " + lanes, x.net(), right ? lanes : STATE);
            CHECK.due("26: lanes " + lanes, x.count(0), right ? lanes : 0);
            text.append(lanes == 0 ? "" : ",").append("cf");
        }
    }

    // Then perhaps a COST (1 to 9; 1, if it is not told).
    private static void costs() {
        for (int cost = 1; cost <= 9; cost++) {
            run("6: cost " + cost, Check.made("ab:ab" + cost + ",cd+" + cost + ",cd-" + cost), "count(0) 3", "lane(0,3) " + cost,
                "lane(1,3) " + cost, "lane(2,3) " + cost);
        }
        for (String wrong : new String[] {"0", "+0", "-0", "/", ":", "10", "99", "1+", "9-", "a1"}) {
            CutsOrFast x = new CutsOrFast();
            Check.write(x, "ab:ab" + wrong);
            CHECK.due("5: cost " + wrong, x.net(), STATE);
        }
        run("6: costs that are not told", Check.made("ab:ab9,cd,cd+,cd-,ef8"), "lane(0,3) 9", "lane(1,3) 1", "lane(2,3) 1",
            "lane(3,3) 1", "lane(4,3) 8");
    }

    // Then perhaps '+' (FAST) or '-' (CUT) .. Others are OPEN.
    private static void signs() {
        run("6: signs", Check.made("ab:ab,cd+,ef-,fe+2,dc-3,ba4"), "lane(0,2) 0", "lane(1,2) 1", "lane(2,2) 2", "lane(3,2) 1",
            "lane(4,2) 2", "lane(5,2) 0", "count(1) 2", "count(2) 2", "count(3) 2");
        for (String wrong : new String[] {"*", "++", "+-", "-+", "--", ".", ",", ",+"}) {
            CutsOrFast x = new CutsOrFast();
            Check.write(x, "ab:ab" + wrong);
            CHECK.due("5: sign " + wrong, x.net(), STATE);
        }
        run("6: all open", Check.made("ab:ab,ab,ab,ab,ab,ab,ab,ab,ab"), "count(1) 9", "count(2) 0", "count(3) 0");
        run("6: all fast", Check.made("ab:ab+,ab+,ab+,ab+,ab+,ab+,ab+,ab+,ab+"), "count(1) 0", "count(2) 9", "count(3) 0");
        run("6: all cut", Check.made("ab:ab-,ab-,ab-,ab-,ab-,ab-,ab-,ab-,ab-"), "count(1) 0", "count(2) 0", "count(3) 9");
    }

    // Another one is gone, with all MOVES; JOIN is to move at first; THE PAGE is empty then.
    private static void anotherNetIsGone() {
        CutsOrFast x = Check.made("ab:ab,ab,ab,ab,ab,ab,ab,ab,ab");
        run("5: another", x, "begin(1) 0", "take(8) 1", "count(5) 0", "page cd:cd", "count(5) 0", "net() 1", "count(0) 1",
            "count(1) 1", "count(3) 0", "count(4) 0", "count(5) 0", "count(7) 0", "count(8) 2", "back() STATE", "net() STATE",
            "whose(0) 0", "whose(1) 1", "begin(1) 0", "page cd:cd", "net() 1", "count(5) 0", "count(8) 3");
        run("5: what was known of it, too", Check.made("ab:ab,ab"), "whose(1) 0", "likely(2,0) 1", "ways() 1", "page ab:ab,ac",
            "net() 2", "whose(1) 1", "likely(2,1) 2", "ways() NONE", "page ab:cd,cd", "net() 2", "whose(0) 1", "by(0) NONE");
    }

    private static void noNetIsRead() {
        CutsOrFast x = Check.made("ab:ab,ac,cb");
        run("5: a refused one changes nothing", x, "begin(1) 0", "take(1) 1", "image() 1", "net() STATE", "page ab:ab,", "net() STATE",
            "count(7) 6", "count(4) 1", "count(5) 0", "lane(1,2) 2", "count(8) 1", "restore() 1", "page ac", "net() 2", "count(8) 2",
            "restore() STATE");
    }

    // UNKNOWN (without a NET, too).
    private static void laneNumbers() {
        run("6: without a net", new CutsOrFast(), "lane(-1,0) UNKNOWN", "lane(0,0) UNKNOWN", "lane(0,4) UNKNOWN", "lane(0,-1) UNKNOWN");
        run("6: of one", Check.made("fa:fa"), "lane(-1,0) UNKNOWN", "lane(0,0) 5", "lane(0,1) 0", "lane(1,0) UNKNOWN");
        run("6: of nine", Check.made(LONGEST), "lane(-1,3) UNKNOWN", "lane(0,3) 1", "lane(7,3) 8", "lane(8,3) 9", "lane(9,3) UNKNOWN",
            "lane(10,3) UNKNOWN", "lane(MIN,0) UNKNOWN", "lane(MAX,0) UNKNOWN", "lane(32,0) UNKNOWN");
        run("6: UNKNOWN ahead of OUTSIDE", Check.made("ab:ab"), "lane(1,4) UNKNOWN", "lane(-1,-1) UNKNOWN", "lane(0,4) OUTSIDE");
    }

    private static void laneWhat() {
        run("6: what", Check.made("ab:ef-7"), "lane(0,-1) OUTSIDE", "lane(0,0) 4", "lane(0,1) 5", "lane(0,2) 2", "lane(0,3) 7",
            "lane(0,4) OUTSIDE", "lane(0,MIN) OUTSIDE", "lane(0,MAX) OUTSIDE");
        for (int place = 0; place < 6; place++) {
            int other = (place + 1) % 6;
            String both = "" + (char) ('a' + place) + (char) ('a' + other);
            run("6: as told, " + both, Check.made("ab:" + both), "lane(0,0) " + place, "lane(0,1) " + other);
        }
    }

    private static void laneOfShorterNet() {
        run("6: the last of the net that is gone", Check.made(LONGEST), "lane(8,0) 2", "page ab:ab,cd", "net() 2", "lane(1,0) 2",
            "lane(2,0) UNKNOWN", "lane(8,0) UNKNOWN", "take(2) UNKNOWN", "answer(2) UNKNOWN");
    }

    // JOINED: THE ENDS hang together by FAST LANES.
    private static void joined() {
        run("7: without a net", new CutsOrFast(), "status() STATE", "page ab:ab", "status() STATE", "net() 1", "status() 0");
        run("7: one fast one", Check.made("ab:ba+"), "status() 1");
        run("7: five", Check.made("ab:ac+,cd+,de+,ef+,fb+"), "status() 1");
        run("7: five, the other way round", Check.made("ab:bf+,fe+,ed+,dc+,ca+"), "status() 1");
        for (int missing = 0; missing < 5; missing++) {
            String text = "ab:ac+,cd+,de+,ef+,fb+";
            int at = 5 + 4 * missing;
            run("7: all but " + missing, Check.made(text.substring(0, at) + text.substring(at + 1)), "status() 0", "count(2) 4");
            run("7: cut " + missing, Check.made(text.substring(0, at) + "-" + text.substring(at + 1)), "status() 2");
        }
        run("7: fast ones elsewhere", Check.made("ab:cd+,de+,ec+,ab"), "status() 0");
        run("7: at one end each", Check.made("ab:ac+,bd+,cd"), "status() 0");
        run("7: joined with all others cut", Check.made("ab:cd-,ab+,ef-"), "status() 1");
    }

    // PARTED: not even by FAST and OPEN ones.
    private static void parted() {
        run("7: one open one", Check.made("ab:ba"), "status() 0");
        run("7: one cut one", Check.made("ab:ba-"), "status() 2");
        run("7: by fast and open ones", Check.made("ab:ac+,cd,de+,ef,fb+"), "status() 0");
        run("7: no lane at the one end", Check.made("ab:bc,cd"), "status() 2");
        run("7: no lane at the other end", Check.made("ab:ac,cd"), "status() 2");
        run("7: not by way of a cut one", Check.made("ab:ac,cb-,cd,db-"), "status() 2");
    }

    private static void statusBehindMoves() {
        CutsOrFast x = Check.made("ab:ac,cb,cd,ad");
        run("7: by moves of both", x, "take(2) 1", "status() 0", "take(1) 2", "status() 2", "back() 1", "status() 0", "take(3) 2",
            "status() 0", "take(0) 3", "status() 0", "take(1) 4", "status() 2", "back() 3", "back() 2", "take(1) 3", "take(0) 4",
            "status() 2");
        run("7: joined by the last move", Check.made("ab:ac,cb,cb"), "take(0) 1", "take(1) 2", "status() 0", "take(2) 3", "status() 1",
            "back() 2", "status() 0");
    }
}
