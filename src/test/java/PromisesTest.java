/** Each promise of the document with ordinary inputs, the edges that it names, and wrong inputs. */
public final class PromisesTest {
    private static final int NONE = -1, UNKNOWN = -101, OUTSIDE = -102, STATE = -103, FULL = -104;
    // Two ways from a to b, and a lane across.
    private static final String BRIDGE = "ab:ac,cb,ad,db,cd9";
    private static final int MIN = Integer.MIN_VALUE, MAX = Integer.MAX_VALUE;

    private static final Check CHECK = new Check("PromisesTest");

    private static void due(String what, long got, long want) {
        CHECK.due(what, got, want);
    }

    public static void main(String[] args) {
        newObject();
        withoutNet();
        letters();
        blank();
        fault();
        net();
        lane();
        status();
        begin();
        take();
        back();
        whoseAndBy();
        answer();
        lost();
        ways();
        parting();
        mend();
        bought();
        likely();
        player();
        as();
        move();
        game();
        imageAndRestore();
        count();
        digest();
        CHECK.end();
    }

    private static CutsOrFast made(String text, int... lanes) {
        CutsOrFast x = Check.made(text);
        for (int lane : lanes) {
            x.take(lane);
        }
        return x;
    }

    private static void newObject() {
        CutsOrFast x = new CutsOrFast();
        for (int what = 0; what < 10; what++) {
            due("1: count " + what, x.count(what), 0);
        }
        due("1: no net", x.status(), STATE);
        due("1: no players", x.as(0, 0), UNKNOWN);
        long h = 587;
        for (int what = 0; what < 10; what++) {
            h *= 31;
        }
        due("1: digest", x.digest(), h);
    }

    /** UNKNOWN is told ahead of STATE, STATE ahead of OUTSIDE, where a call tells them so. */
    private static void withoutNet() {
        CutsOrFast x = new CutsOrFast();
        due("5: net of nothing", x.net(), STATE);
        due("6: lane", x.lane(0, 9), UNKNOWN);
        due("8: begin 0", x.begin(0), STATE);
        due("8: begin 2", x.begin(2), UNKNOWN);
        due("9: take", x.take(0), UNKNOWN);
        due("10: back", x.back(), STATE);
        due("11: whose 1", x.whose(1), STATE);
        due("11: whose -1", x.whose(-1), UNKNOWN);
        due("12: by 0", x.by(0), STATE);
        due("12: by 2", x.by(2), UNKNOWN);
        due("13: answer", x.answer(0), UNKNOWN);
        due("14: lost", x.lost(), STATE);
        due("15: ways", x.ways(), STATE);
        due("16: parting 7", x.parting(7), STATE);
        due("17: mend 7", x.mend(7), STATE);
        due("17: not counted", x.count(9), 0);
        due("18: bought 7", x.bought(7), STATE);
        due("19: likely 7 7", x.likely(7, 7), STATE);
        due("22: move of none", x.move(0, -1), UNKNOWN);
        due("23: game of none", x.game(0, 0, -1, 9), UNKNOWN);
        x.player(0);
        due("22: move", x.move(0, -1), STATE);
        due("23: game", x.game(0, 0, -1, 9), STATE);
        due("23: game of one", x.game(0, 1, 1, 0), UNKNOWN);
        due("24: image", x.image(), STATE);
        due("25: restore", x.restore(), STATE);
    }

    private static void letters() {
        CutsOrFast x = new CutsOrFast();
        due("2: none", x.letters(0), 0);
        due("2: one", x.letters('a'), 1);
        due("2: eight", x.letters(Check.packed("bcdefabc")), 9);
        due("2: codes 1 and 126", x.letters(1 | 126 << 8), 11);
        due("2: 127", x.letters(127), OUTSIDE);
        due("2: 255 as the eighth", x.letters(-1L << 56 | 0x61616161616161L), OUTSIDE);
        due("2: all ones", x.letters(-1), OUTSIDE);
        due("2: behind a 0", x.letters('a' | 'b' << 16), OUTSIDE);
        due("2: a 0 at first", x.letters((long) 'b' << 56), OUTSIDE);
        due("2: nothing changed", x.count(7), 11);
        for (int i = 0; i < 4; i++) {
            x.letters(Check.packed("aaaaaaaa"));
        }
        due("2: 48", x.letters(Check.packed("aaaaa")), 48);
        due("2: 51", x.letters(Check.packed("aaa")), FULL);
        due("2: OUTSIDE ahead of FULL", x.letters(Check.packed("aaa") | 127L << 24), OUTSIDE);
        due("2: 50", x.letters(Check.packed("aa")), 50);
        due("2: 51 by one", x.letters('a'), FULL);
        due("2: none more", x.letters(0), 50);
    }

    private static void blank() {
        CutsOrFast x = new CutsOrFast();
        due("3: of none", x.blank(), 0);
        Check.write(x, "ab:ab");
        due("3: of five", x.blank(), 5);
        due("3: empty", x.count(7), 0);
        due("3: not a net", x.net(), STATE);
        Check.write(x, "ab:");
        due("3: old letters do not stand", x.net(), STATE);
    }

    private static int faultOf(String text) {
        CutsOrFast x = new CutsOrFast();
        Check.write(x, text);
        return x.fault();
    }

    private static void fault() {
        String nine = "ef:ab,ab,ab,ab,ab,ab,ab,ab,ab";
        String[] sound = {"", "a", "fa", "ab:", "ab:c", "ab:cd", "ab:cd+", "ab:cd-9", "ab:cd1", "ab:cd,", "ab:cd+1,fe", nine,
            nine + "+", nine + "-3"};
        for (String text : sound) {
            due("4: " + text, faultOf(text), text.length());
        }
        // The faulty letter is the last one of each.
        String[] faulty = {"g", "A", "`", "1", "aa", "ag", "ab,", "aba", "ab:g", "ab:,", "ab:cc", "ab:c+", "ab:cde", "ab:cd0",
            "ab:cd:", "ab:cd++", "ab:cd+-", "ab:cd12", "ab:cd1+", "ab:cd+a", "ab:cd,,", "ab:cd,ee", nine + ",", nine + "a",
            nine + "-,", nine + "+9,"};
        for (String text : faulty) {
            due("4: " + text, faultOf(text), text.length() - 1);
            due("4: " + text + " and more", faultOf(text + "ab:"), text.length() - 1);
        }
        due("4: a code of 1", faultOf("ab:\1"), 3);
    }

    private static void net() {
        String[] none = {"", "ab", "ab:", "ab:a", "ab:ac,", "ab:ac,d", "aa:ab", "ab:aa", "ab:ac0", "ab:ac,ac,ac,ac,ac,ac,ac,ac,ac,ac"};
        for (String text : none) {
            CutsOrFast x = new CutsOrFast();
            Check.write(x, text);
            due("5: " + text, x.net(), STATE);
            due("5: the page is left", x.count(7), text.length());
            due("5: none was read", x.count(8), 0);
        }
        String longest = "fe:ab+1,bc-2,cd+3,de-4,ef+5,fa-6,ac+7,bd-8,ce+9";
        CutsOrFast x = new CutsOrFast();
        Check.write(x, longest);
        due("5: nine", x.net(), 9);
        due("5: empty page", x.count(7), 0);
        x = made(BRIDGE);
        x.begin(1);
        x.take(0);
        x.image();
        Check.write(x, "ab:");
        due("5: no net", x.net(), STATE);
        due("5: the other one stands", x.count(0), 5);
        due("5: with its moves", x.count(4), 1);
        x.blank();
        Check.write(x, "cd:cd");
        due("5: another", x.net(), 1);
        due("5: no moves", x.count(4), 0);
        due("5: JOIN is to move", x.count(5), 0);
        due("5: read", x.count(8), 2);
        due("5: nothing to go back to", x.back(), STATE);
        due("5: what was known of the other is gone", x.whose(0) * 2 + x.whose(1), 1);
    }

    private static void lane() {
        CutsOrFast x = made("ab:fc+7,ba-,ab");
        int[][] all = {{5, 2, 1, 7}, {1, 0, 2, 1}, {0, 1, 0, 1}};
        for (int lane = 0; lane < 3; lane++) {
            for (int what = 0; what < 4; what++) {
                due("6: lane " + lane + " " + what, x.lane(lane, what), all[lane][what]);
            }
        }
        x = made("ab:ab5,ab,ac");
        x.begin(1);
        x.take(0);
        due("6: cut by a move", x.lane(0, 2), 2);
        x.take(1);
        due("6: fast by a move", x.lane(1, 2), 1);
        due("6: what -1", x.lane(0, -1), OUTSIDE);
        due("6: what 4", x.lane(0, 4), OUTSIDE);
        due("6: lane 3", x.lane(3, 0), UNKNOWN);
        due("6: lane -1, what 9", x.lane(-1, 9), UNKNOWN);
        due("6: least", x.lane(MIN, MIN), UNKNOWN);
        due("6: greatest", x.lane(MAX, 0), UNKNOWN);
    }

    private static void status() {
        due("7: neither", made("ab:ab").status(), 0);
        due("7: joined", made("ab:ab+,cd").status(), 1);
        due("7: joined over places", made("ab:cd+,db+,ac+").status(), 1);
        due("7: not by open ones", made("ab:ac+,cb").status(), 0);
        due("7: parted", made("ab:ac,cb-").status(), 2);
        due("7: parted without a lane", made("ab:cd").status(), 2);
        due("7: from end to end over all places", made("ab:fb+,ef+,de+,cd+,ac+").status(), 1);
        due("7: the other way round", made("ba:fb+,ef+,de+,cd+,ac+").status(), 1);
        due("7: by a move", made("ab:ab", 0).status(), 1);
    }

    private static void begin() {
        CutsOrFast x = made(BRIDGE);
        due("8: was JOIN", x.begin(1), 0);
        due("8: was CUT", x.begin(1), 1);
        due("8: again", x.begin(0), 1);
        due("8: 2", x.begin(2), UNKNOWN);
        due("8: -1", x.begin(-1), UNKNOWN);
        x.begin(1);
        x.take(0);
        due("8: a move was made", x.begin(0), STATE);
        due("8: UNKNOWN ahead", x.begin(3), UNKNOWN);
        due("8: CUT moved", x.lane(0, 2), 2);
        x.back();
        due("8: none any more", x.begin(0), 1);
        due("8: though it is joined", made("ab:ab+").begin(1), 0);
    }

    private static void take() {
        CutsOrFast x = made(BRIDGE);
        due("9: first", x.take(4), 1);
        due("9: taken", x.take(4), STATE);
        due("9: second", x.take(0), 2);
        due("9: JOIN, then CUT", x.lane(4, 2) * 10 + x.lane(0, 2), 12);
        due("9: who is to move", x.count(5), 0);
        due("9: 5", x.take(5), UNKNOWN);
        due("9: -1", x.take(-1), UNKNOWN);
        due("9: greatest", x.take(MAX), UNKNOWN);
        x.take(2);
        x.take(1);
        due("9: last", x.take(3), 5);
        due("9: joined", x.status(), 1);
        due("9: a text's fast one", made("ab:ac+,cb").take(0), STATE);
        due("9: a text's cut one", made("ab:ac-,ab").take(0), STATE);
        due("9: no moves any more", made("ab:ab,ab", 0).take(1), STATE);
        due("9: none when parted", made("ab:cd").take(0), STATE);
        due("9: UNKNOWN ahead of it", made("ab:cd").take(1), UNKNOWN);
    }

    private static void back() {
        CutsOrFast x = made(BRIDGE, 4, 0, 1);
        due("10: two left", x.back(), 2);
        due("10: open again", x.lane(1, 2), 0);
        due("10: JOIN is to move again", x.count(5), 0);
        due("10: one", x.back(), 1);
        due("10: none", x.back(), 0);
        due("10: no move", x.back(), STATE);
        x = made("ab:ab", 0);
        due("10: from the end", x.back(), 0);
        due("10: neither", x.status(), 0);
        x = made("ab:ab,ac+");
        x.begin(1);
        x.take(0);
        x.back();
        due("10: who began is kept", x.count(5), 1);
        due("10: a text's fast one stays", x.lane(1, 2), 1);
    }

    private static void whoseAndBy() {
        CutsOrFast x = made(BRIDGE);
        due("11: JOIN first", x.whose(0), 0);
        due("11: CUT first", x.whose(1), 1);
        due("12: JOIN", x.by(0), 0);
        due("12: CUT", x.by(1), 0);
        x.begin(1);
        due("11: whoever is to move", x.whose(0), 0);
        due("11: 2", x.whose(2), UNKNOWN);
        due("12: -1", x.by(-1), UNKNOWN);
        x = made("ab:ac,ab");
        due("12: not the least of all", x.by(0), 1);
        due("12: nor for CUT", x.by(1), 1);
        x = made("ab:ab,ab");
        due("11: two lanes", x.whose(1), 0);
        due("12: by none", x.by(1), NONE);
        x = made("ab:ac,cb,cd");
        due("11: one way of two", x.whose(0), 1);
        due("12: JOIN by none", x.by(0), NONE);
        due("12: CUT by any", x.by(1), 0);
        x = made("ab:ab+,ac");
        due("11: joined", x.whose(0) + x.whose(1), 0);
        due("12: nothing is to be moved", x.by(0) + x.by(1), -2);
        x = made("ab:ab-,ac");
        due("11: parted", x.whose(0) + x.whose(1), 2);
        due("12: nothing then", x.by(0) + x.by(1), -2);
    }

    private static void answer() {
        CutsOrFast x = made(BRIDGE);
        due("13: none helps", x.answer(0), NONE);
        due("13: nor behind the cut of the bridge", x.answer(4), NONE);
        x.take(4);
        due("13: behind the cut of 0", x.answer(0), 2);
        due("13: of 1", x.answer(1), 3);
        due("13: of 2", x.answer(2), 0);
        due("13: of 3", x.answer(3), 1);
        due("13: not open", x.answer(4), STATE);
        due("13: 5", x.answer(5), UNKNOWN);
        due("13: -1", x.answer(-1), UNKNOWN);
        due("13: parted behind", made("ab:ab,ac").answer(0), NONE);
        due("13: joined by it", made("ab:ab,ac").answer(1), 0);
        due("13: it is joined", made("ab:ab+,ac").answer(1), STATE);
        due("13: it is parted", made("ab:cd").answer(0), STATE);
        due("13: it need not be joined", made("ab:ac,cb,cb,ab").answer(3), 0);
    }

    private static void lost() {
        due("14: no move", made(BRIDGE).lost(), NONE);
        due("14: JOIN by its second", made(BRIDGE, 4, 0, 1).lost(), 2);
        due("14: the first of several", made("ab:ab,ab,ac", 2, 0, 1).lost(), NONE);
        CutsOrFast x = made("ab:ab,ac");
        x.take(1);
        due("14: JOIN by its first", x.lost(), 0);
        x.back();
        x.begin(1);
        x.take(1);
        due("14: CUT by its first", x.lost(), 0);
        x.take(0);
        due("14: to the end", x.lost(), 0);
        due("14: who had it not", made("ab:ac,cb,cd", 0, 1).lost(), NONE);
        due("14: both, the first is told", made("ab:ab,ac,ad", 1, 2, 0).lost(), 0);
    }

    private static void ways() {
        due("15: none", made(BRIDGE).ways(), NONE);
        due("15: a fast one is in both", made(BRIDGE, 4).ways(), 19);
        due("15: two lanes", made("ab:ab,ba").ways(), 1);
        due("15: all places", made("ab:ab,ab,cd-").ways(), NONE);
        due("15: a cut one's places", made("ab:ab,ab,ac-").ways(), NONE);
        due("15: a cut one between them", made("ab:ab,ab-,ab").ways(), 1);
        due("15: the ends, too", made("ab:cd,cd").ways(), NONE);
        due("15: joined", made("ab:ab+").ways(), 1);
        due("15: the set has a fast one itself", made("ab:ac+,cb,cb,ac").ways(), 3);
        due("15: not the fewest, the least bits", made("ab:ab,bc,ca,ab,bc").ways(), 3);
    }

    private static void parting() {
        CutsOrFast x = made(BRIDGE);
        due("16: how many", x.parting(0), 2);
        due("16: which", x.parting(1), 5);
        due("16: -1", x.parting(-1), OUTSIDE);
        due("16: 2", x.parting(2), OUTSIDE);
        x = made("ab:ac,cb,cb");
        due("16: fewest", x.parting(1), 1);
        x = made("ab:cb,cb,ac");
        due("16: fewest, not of least bits", x.parting(1), 4);
        due("16: one", x.parting(0), 1);
        x = made("ab:ac+,cb,cb");
        due("16: open ones", x.parting(1), 6);
        x = made("ab:ab,ba,ab,ba,ab,ba,ab,ba,ab");
        due("16: nine", x.parting(0) * 1000 + x.parting(1), 9511);
        x = made("ab:ab+");
        due("16: joined", x.parting(0), NONE);
        due("16: joined, which", x.parting(1), NONE);
        x = made("ab:ac");
        due("16: parted", x.parting(0), 0);
        due("16: parted, which", x.parting(1), 0);
    }

    private static void mend() {
        CutsOrFast x = made(BRIDGE);
        due("17: one more", x.mend(0), 1);
        due("17: lesser", x.mend(1), 0);
        due("17: greater", x.mend(2), 1);
        due("17: -1", x.mend(-1), OUTSIDE);
        due("17: 3", x.mend(3), OUTSIDE);
        due("17: not counted", x.count(9), 3);
        due("17: the net is as it was", x.whose(0) * 2 + x.whose(1) + x.count(0) * 10, 51);
        due("17: safe", made("ab:ab,ab").mend(0), 0);
        due("17: safe, none", made("ab:ab,ab").mend(1), NONE);
        due("17: joined", made("ab:ab+").mend(0), 0);
        due("17: parted", made("ab:ac").mend(0), 2);
        due("17: in vain, none", made("ab:ac,cb").mend(2), NONE);
        x = made("ef:ea,af,ea");
        due("17: by a lane alike", x.mend(0), 1);
        due("17: the lesser place first", x.mend(1) * 10 + x.mend(2), 5);
        due("17: of nine and one more", made("ab:ac,cb,ad,db,cd,ae,eb,af,fb").mend(0), 1);
        x = made("bd:cf,fe,bc,fa,ef,ea,bf,fd,ed");
        due("17: the tenth lane", x.mend(0) * 100 + x.mend(1) * 10 + x.mend(2), 101);
        x = made("dc:db,ba,ac,db,ba");
        due("17: the missing way", x.mend(1) * 10 + x.mend(2), 2);
        x = made("ab:ab,ab");
        for (int i = 0; i < 19; i++) {
            x.mend(i % 3);
        }
        Check.write(x, "ab:ab");
        x.net();
        due("17: 19, whatever is read", x.count(9), 19);
        x.image();
        due("17: the twentieth", x.mend(0), 1);
        x.restore();
        due("17: done 20 times", x.mend(0), STATE);
        due("17: STATE ahead of OUTSIDE", x.mend(9), STATE);
        due("17: 20", x.count(9), 20);
    }

    private static void bought() {
        CutsOrFast x = made(BRIDGE);
        due("18: cost", x.bought(0), 1);
        due("18: which", x.bought(1), 1);
        due("18: -1", x.bought(-1), OUTSIDE);
        due("18: 2", x.bought(2), OUTSIDE);
        x = made("ab:ac,cb,ad9,db9,cd");
        due("18: one of the cheap", x.bought(0) * 100 + x.bought(1), 101);
        x = made("ab:ab9,ac4,cb4,ad3,db4");
        due("18: the cheaper lane, not the least", x.bought(0) * 100 + x.bought(1), 308);
        x = made("ab:ac2,cb3");
        due("18: both", x.bought(0) * 100 + x.bought(1), 503);
        x = made("ab:ac5,cb,cb5,ac,cb");
        due("18: of like ones the least bits", x.bought(0), 0);
        x = made("ab:ab,ab");
        due("18: nothing", x.bought(0) * 100 + x.bought(1), 0);
        x = made("ab:ab+");
        due("18: joined", x.bought(0) * 100 + x.bought(1), 0);
        x = made("ab:ac");
        due("18: parted", x.bought(0), NONE);
        due("18: parted, which", x.bought(1), NONE);
    }

    private static void likelyOf(String text, int who, int... fractions) {
        CutsOrFast x = made(text);
        x.begin(who);
        for (int how = 0; how < 3; how++) {
            due("19: " + text + " how " + how + " above", x.likely(how, 0), fractions[2 * how]);
            due("19: " + text + " how " + how + " below", x.likely(how, 1), fractions[2 * how + 1]);
        }
    }

    private static void likely() {
        likelyOf(BRIDGE, 0, 1, 1, 1, 3, 4, 5);
        likelyOf("ab:ab", 0, 1, 1, 1, 1, 1, 1);
        likelyOf("ab:ab", 1, 0, 1, 0, 1, 0, 1);
        likelyOf("ab:ab,cd,ce", 0, 1, 1, 1, 3, 2, 3);
        likelyOf("ab:ab,cd,ce", 1, 2, 3, 0, 1, 1, 3);
        likelyOf("ab:ab+,cd", 1, 1, 1, 1, 1, 1, 1);
        likelyOf("ab:ac,cb-", 0, 0, 1, 0, 1, 0, 1);
        CutsOrFast x = made(BRIDGE);
        due("19: how -1", x.likely(-1, 0), OUTSIDE);
        due("19: how 3", x.likely(3, 0), OUTSIDE);
        due("19: part -1", x.likely(0, -1), OUTSIDE);
        due("19: part 2", x.likely(0, 2), OUTSIDE);
        due("19: far out", x.likely(MAX, MIN), OUTSIDE);
    }

    private static void player() {
        CutsOrFast x = new CutsOrFast();
        due("20: -1", x.player(-1), OUTSIDE);
        due("20: 5", x.player(5), OUTSIDE);
        for (int i = 0; i < 5; i++) {
            due("20: player " + i, x.player(4 - i), i);
        }
        due("20: a sixth", x.player(0), FULL);
        due("20: OUTSIDE ahead of FULL", x.player(5), OUTSIDE);
        due("20: five", x.count(6), 5);
    }

    private static void as() {
        CutsOrFast x = new CutsOrFast();
        String[] kinds = {"x....", "xx...", "x.x..", "x.xx.", "x...x"};
        for (int own = 0; own < 5; own++) {
            x.player(own);
        }
        for (int own = 0; own < 5; own++) {
            for (int kind = 0; kind < 5; kind++) {
                due("21: " + own + " as " + kind, x.as(own, kind), kinds[own].charAt(kind) == 'x' ? own : NONE);
            }
            due("21: as 5", x.as(own, 5), OUTSIDE);
            due("21: as -1", x.as(own, -1), OUTSIDE);
        }
        due("21: player 5", x.as(5, 9), UNKNOWN);
        due("21: player -1", x.as(-1, 0), UNKNOWN);
    }

    private static CutsOrFast withAll(String text) {
        CutsOrFast x = made(text);
        for (int kind = 0; kind < 5; kind++) {
            x.player(kind);
        }
        return x;
    }

    private static void moves(String text, int who, int... lanes) {
        CutsOrFast x = withAll(text);
        x.begin(who);
        for (int kind = 0; kind < lanes.length; kind++) {
            due("22: " + text + " kind " + kind, x.move(kind, 77), lanes[kind]);
        }
        due("22: nothing changed", x.count(4), 0);
    }

    private static void move() {
        moves("ab:cd,ac,cb,ab", 0, 0, 1, 3, 3);
        moves("ab:cd,ac,cb,ab", 1, 0, 3, 3, 3);
        // Fast ones have no length: over the two ways of length 1, lanes 1 and 3.
        moves("ab:cd,ac2,cb+,ab7", 1, 0, 0, 1, 3);
        // Of like cost the least.
        moves("ab:cd-,ac3,cb3,ad3,db3", 0, 1, 1, 1, 1);
        moves("ab:ae,ef,fb,ac1,cb9,ad,db9", 0, 0, 0, 3, 4);
        // One way over all places, told from its far end and from its near one.
        moves("ab:fb,ef,de9,cd,ac", 0, 0, 0, 0, 2);
        moves("ba:fb,ef,de9,cd,ac", 0, 0, 0, 0, 2);
        // None has it: the least of all.
        moves("ab:cd,ac,cb", 0, 0, 0, 1, 1);
        CutsOrFast x = withAll("ab:ab-,ac,cb,ad,db");
        // By 0 the next seed is 12345, which is less than 65536: the draw is 0.
        due("22: chance by 0", x.move(4, 0), 1);
        long seed = (1103515245L * 77 + 12345) % (1L << 31);
        due("22: chance by 77", x.move(4, 77), 1 + seed / 65536 % 4);
        seed = (1103515245L * MAX + 12345) % (1L << 31);
        due("22: chance by the greatest", x.move(4, MAX), 1 + seed / 65536 % 4);
        due("22: seed -1", x.move(0, -1), OUTSIDE);
        due("22: seed least", x.move(0, MIN), OUTSIDE);
        due("22: player 5", x.move(5, -1), UNKNOWN);
        due("22: player -1", x.move(-1, 0), UNKNOWN);
        due("22: joined", withAll("ab:ab+,ac").move(0, -1), STATE);
        due("22: parted", withAll("ab:cd").move(1, 0), STATE);
    }

    private static void game() {
        CutsOrFast x = withAll(BRIDGE);
        due("23: best against chance", x.game(1, 4, 5, 0), 0);
        due("23: its moves", x.game(1, 4, 5, 1), 3);
        due("23: its fast ones", x.game(1, 4, 5, 2), 3);
        due("23: its seed", x.game(1, 4, 5, 3), (1103515245L * 5 + 12345) % (1L << 31));
        due("23: without draws", x.game(0, 0, 5, 3), 5);
        due("23: nothing changed", x.count(4) + x.count(2), 0);
        x.begin(1);
        due("23: best cuts first", x.game(0, 1, 5, 0), 1);
        long seed = 9;
        for (int i = x.game(4, 4, 9, 1); i > 0; i--) {
            seed = (1103515245L * seed + 12345) % (1L << 31);
        }
        due("23: a draw a move, though one moves for both", x.game(4, 4, 9, 3), seed);
        x.take(4);
        due("23: from now on", x.game(0, 0, 0, 1), 4);
        due("23: by what there was, too", x.game(0, 0, 0, 2), 5);
        due("23: what 4", x.game(0, 0, 0, 4), OUTSIDE);
        due("23: what -1", x.game(0, 0, 0, -1), OUTSIDE);
        due("23: seed -1", x.game(0, 0, -1, 0), OUTSIDE);
        due("23: join 5", x.game(5, 0, -1, 0), UNKNOWN);
        due("23: cut -1", x.game(0, -1, 0, 9), UNKNOWN);
        x = withAll("ab:ab+,ac");
        due("23: joined", x.game(4, 4, 3, 0) + x.game(4, 4, 3, 1), 0);
        due("23: its fast one", x.game(4, 4, 3, 2), 1);
        due("23: no draw", x.game(4, 4, 3, 3), 3);
        due("23: parted", withAll("ab:ac").game(0, 0, 0, 0), 1);
    }

    private static void imageAndRestore() {
        CutsOrFast x = made(BRIDGE);
        x.begin(1);
        due("24: of none", x.image(), 0);
        x.take(4);
        x.take(0);
        due("25: to none", x.restore(), 0);
        due("25: CUT is to move", x.count(5), 1);
        due("25: all open", x.count(1), 5);
        x.take(4);
        x.take(0);
        due("24: the latest", x.image(), 2);
        x.back();
        x.back();
        x.take(1);
        due("25: to two", x.restore(), 2);
        due("25: the lanes", x.lane(4, 2) * 100 + x.lane(0, 2) * 10 + x.lane(1, 2), 210);
        due("25: the moves", x.back() + x.lane(0, 2), 1);
        due("25: again", x.restore(), 2);
        Check.write(x, "ab:ab,");
        x.net();
        due("25: no net was read", x.restore(), 2);
        x.blank();
        Check.write(x, BRIDGE);
        x.net();
        due("25: a net was read, of the same text", x.restore(), STATE);
        due("24: of that", x.image(), 0);
        due("25: to that", x.restore(), 0);
        x.player(0);
        due("25: players are no part of it", x.restore() + x.count(6), 1);
    }

    private static void count() {
        CutsOrFast x = made("ab:ac+,cd-,db,ab,ce,ef", 4, 5);
        x.player(3);
        x.letters('q');
        x.mend(0);
        int[] all = {6, 2, 2, 2, 2, 0, 1, 1, 1, 1};
        for (int what = 0; what < 10; what++) {
            due("26: " + what, x.count(what), all[what]);
        }
        due("26: -1", x.count(-1), OUTSIDE);
        due("26: 10", x.count(10), OUTSIDE);
        due("26: least", x.count(MIN), OUTSIDE);
    }

    private static void digest() {
        CutsOrFast x = made("ab:ab3", 0);
        x.player(3);
        x.letters('q');
        long h = 587;
        int[] all = {0, 1, 1, 3, 1, 0, 0, NONE, NONE, NONE, 1, NONE, NONE, 0, 0, 1, 1, 1, 1, 1, 1, 3, 'q',
            1, 0, 1, 0, 1, 1, 1, 1, 1, 0};
        for (int number : all) {
            h = 31 * h + number;
        }
        due("27: by hand", x.digest(), h);
        due("27: nothing changed", x.digest(), h);
        x = made(BRIDGE, 4, 0, 1);
        due("27: in order", x.digest(), foldOf(x));
        x = made("ab:ac2,cb3,ab-4,ad+5", 1, 0);
        due("27: in order, parted", x.digest(), foldOf(x));
        x = new CutsOrFast();
        x.player(4);
        x.player(0);
        Check.write(x, "ab");
        h = 587;
        for (int number : new int[] {4, 0, 'a', 'b', 0, 0, 0, 0, 0, 0, 2, 2, 0, 0}) {
            h = 31 * h + number;
        }
        due("27: without a net", x.digest(), h);
    }

    /** What digest() tells of an object without players and letters, by what the other calls tell. */
    private static long foldOf(CutsOrFast x) {
        long h = 587;
        for (int i = 0; i < x.count(0); i++) {
            h = ((((h * 31 + x.lane(i, 0)) * 31 + x.lane(i, 1)) * 31) + x.lane(i, 2)) * 31 + x.lane(i, 3);
        }
        int[] told = {x.status(), x.whose(0), x.whose(1), x.by(0), x.by(1), x.lost(), x.ways(), x.parting(0), x.parting(1),
            x.bought(0), x.bought(1), x.likely(0, 0), x.likely(0, 1), x.likely(1, 0), x.likely(1, 1), x.likely(2, 0),
            x.likely(2, 1), x.count(0), x.count(1), x.count(2), x.count(3), x.count(4), x.count(5), x.count(6), x.count(7),
            x.count(8), x.count(9)};
        for (int number : told) {
            h = 31 * h + number;
        }
        return h;
    }
}
