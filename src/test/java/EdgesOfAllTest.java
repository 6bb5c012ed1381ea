import java.lang.reflect.Array;
import java.lang.reflect.Field;
import java.lang.reflect.Modifier;
import java.util.IdentityHashMap;
import java.util.Map;
import java.util.Random;

/** The edges that the document names of what is told of all (promises 24 to 27), of refusals, and of many calls. */
public final class EdgesOfAllTest {
    private static final String BRIDGE = "ab:ac,cb,ad,db,cd9";
    // Only the last lane matters.
    private static final String LAST = "ab:cd,cd,cd,cd,cd,cd,cd,cd,ab";
    private static final String LONGEST = "fe:ab+1,bc-2,cd+3,de-4,ef+5,fa-6,ac+7,bd-8,ce+9";
    private static final Check CHECK = new Check("EdgesOfAllTest");

    public static void main(String[] args) {
        imageWithoutNet();
        imageMoves();
        imageIsTheLatest();
        imageKeepsWhoIsToMove();
        imageAndRefusedNet();
        restoreAgain();
        restoreBehindANet();
        countWhat();
        countAtItsLeast();
        countAtItsGreatest();
        countWhoIsToMove();
        digestOfNothing();
        digestOfAll();
        digestBehindCalls();
        refusalsChangeNothing();
        fiveHundredAndTwelveCalls();
        room();
        CHECK.end();
    }

    private static void run(String what, String net, String... steps) {
        Calls.run(CHECK, what + ", " + net, net.isEmpty() ? new CutsOrFast() : Check.made(net), steps);
    }

    // STATE: there is no NET; none was kept.
    private static void imageWithoutNet() {
        run("24, 25", "", "image() STATE", "restore() STATE", "page ab:ab", "image() STATE", "restore() STATE", "net() 1",
            "restore() STATE", "image() 0", "restore() 0");
    }

    // How many MOVES.
    private static void imageMoves() {
        run("24, 25: of none", LAST, "image() 0", "restore() 0", "take(0) 1", "restore() 0", "count(1) 9", "back() STATE");
        run("24, 25: of one", LAST, "take(3) 1", "image() 1", "back() 0", "restore() 1", "lane(3,2) 1", "back() 0", "back() STATE");
        run("24, 25: of nine", LAST, "take(7) 1", "take(6) 2", "take(5) 3", "take(4) 4", "take(3) 5", "take(2) 6", "take(1) 7", "take(0) 8",
            "take(8) 9", "image() 9", "back() 8", "back() 7", "back() 6", "back() 5", "back() 4", "back() 3", "back() 2", "back() 1",
            "back() 0", "take(0) 1", "take(1) 2", "restore() 9", "status() 1", "count(1) 0", "lane(0,2) 2", "lane(8,2) 1", "back() 8",
            "lane(8,2) 0", "back() 7", "lane(0,2) 0", "back() 6", "lane(1,2) 0", "lane(7,2) 1");
        run("24, 25: joined", "ab:ab,cd", "take(0) 1", "image() 1", "back() 0", "take(1) 1", "restore() 1", "status() 1", "lane(1,2) 0",
            "take(1) STATE");
        run("24, 25: over from the text", "ab:ab+,cd", "image() 0", "begin(1) 0", "restore() 0", "count(5) 0", "status() 1");
    }

    // One; the latest.
    private static void imageIsTheLatest() {
        run("24: the latest", LAST, "take(0) 1", "image() 1", "take(1) 2", "image() 2", "take(2) 3", "restore() 2", "back() 1", "back() 0",
            "restore() 2", "image() 2", "back() 1", "image() 1", "take(3) 2", "restore() 1", "lane(1,2) 0", "lane(3,2) 0", "lane(0,2) 1");
    }

    // An IMAGE keeps what all LANES are, who is to move, MOVES.
    private static void imageKeepsWhoIsToMove() {
        run("24: who is to move", LAST, "begin(1) 0", "image() 0", "begin(0) 1", "take(0) 1", "restore() 0", "count(5) 1", "take(0) 1",
            "lane(0,2) 2");
        run("24: behind a move", LAST, "begin(1) 0", "take(0) 1", "image() 1", "back() 0", "begin(0) 1", "take(0) 1", "lane(0,2) 1",
            "restore() 1", "lane(0,2) 2", "count(5) 0", "back() 0", "count(5) 1");
        run("24: no letters, players, times of mend()", "ab:ab", "image() 0", "letters('ab') 2", "player(3) 0", "mend(0) 1", "restore() 0",
            "count(6) 1", "count(7) 2", "count(8) 1", "count(9) 1", "as(0,3) 0", "fault() 2");
        run("24: by which move a game was lost", "ab:ab,cd", "take(1) 1", "image() 1", "lost() 0", "back() 0", "lost() NONE", "take(0) 1",
            "restore() 1", "lost() 0");
    }

    private static void imageAndRefusedNet() {
        run("25: no net was read", LAST, "take(0) 1", "image() 1", "take(1) 2", "net() STATE", "page ab:ab,", "net() STATE", "restore() 1",
            "blank() 6", "restore() 1");
    }

    private static void restoreAgain() {
        run("25: again and again", LAST, "take(0) 1", "image() 1", "restore() 1", "restore() 1", "take(1) 2", "restore() 1", "back() 0",
            "restore() 1", "take(2) 2", "lane(2,2) 2", "restore() 1", "lane(2,2) 0");
    }

    // STATE: a NET was read since (of the same text, too).
    private static void restoreBehindANet() {
        run("25: the same text", "ab:ab", "image() 0", "restore() 0", "page ab:ab", "restore() 0", "net() 1", "restore() STATE",
            "restore() STATE", "take(0) 1", "restore() STATE", "image() 1", "restore() 1", "page cd:cd", "net() 1", "restore() STATE",
            "count(4) 0", "count(5) 0");
    }

    // OUTSIDE.
    private static void countWhat() {
        run("26: what, without a net", "", "count(MIN) OUTSIDE", "count(-1) OUTSIDE", "count(0) 0", "count(9) 0", "count(10) OUTSIDE",
            "count(MAX) OUTSIDE");
        run("26: what", "ab:ab", "count(MIN) OUTSIDE", "count(-1) OUTSIDE", "count(0) 1", "count(9) 0", "count(10) OUTSIDE",
            "count(MAX) OUTSIDE");
    }

    private static void countAtItsLeast() {
        for (int what = 0; what < 10; what++) {
            run("26: at first", "", "count(" + what + ") 0");
        }
        run("26: one lane", "ab:ab", "count(0) 1", "count(1) 1", "count(2) 0", "count(3) 0", "count(4) 0", "count(5) 0", "count(6) 0",
            "count(7) 0", "count(8) 1", "count(9) 0");
    }

    private static void countAtItsGreatest() {
        run("26: nine lanes", LONGEST, "count(0) 9", "count(1) 0", "count(2) 5", "count(3) 4");
        run("26: nine moves", LAST, "begin(1) 0", "take(0) 1", "take(1) 2", "take(2) 3", "take(3) 4", "take(4) 5", "take(5) 6", "take(6) 7",
            "take(7) 8", "count(1) 1", "count(2) 4", "count(3) 4", "count(4) 8", "take(8) 9", "count(1) 0", "count(2) 4", "count(3) 5",
            "count(4) 9", "count(5) 0");
        CutsOrFast x = new CutsOrFast();
        for (int time = 1; time <= 150; time++) {
            Calls.run(CHECK, "26: how often a net was read", x, "letters('ab:ab') 5", "net() 1", "count(8) " + time);
        }
    }

    private static void countWhoIsToMove() {
        run("26: who is to move", BRIDGE, "count(5) 0", "take(0) 1", "count(5) 1", "take(1) 2", "count(5) 0", "back() 1", "count(5) 1",
            "back() 0", "count(5) 0", "begin(1) 0", "count(5) 1", "take(0) 1", "count(5) 0");
        run("26: behind the last move, too", "ab:ab", "take(0) 1", "count(5) 1", "back() 0", "begin(1) 0", "take(0) 1", "count(5) 0");
    }

    private static long fold(long h, long number) {
        return 31 * h + number;
    }

    private static void digestOfNothing() {
        long h = 587;
        for (int what = 0; what < 10; what++) {
            h = fold(h, 0);
        }
        CHECK.due("27: a new object", new CutsOrFast().digest(), h);
        CutsOrFast x = new CutsOrFast();
        x.letters(1);
        h = fold(587, 1);
        for (int what = 0; what < 10; what++) {
            h = fold(h, what == 7 ? 1 : 0);
        }
        CHECK.due("27: one letter of code 1", x.digest(), h);
        x.blank();
        x.player(0);
        h = fold(587, 0);
        for (int what = 0; what < 10; what++) {
            h = fold(h, what == 6 ? 1 : 0);
        }
        CHECK.due("27: one player", x.digest(), h);
    }

    /** What digest() has to tell, by what the other calls tell; the kinds and letters are what the test has put there. */
    private static long digestBy(CutsOrFast x, int[] kinds, String letters) {
        long h = 587;
        for (int lane = 0; lane < x.count(0); lane++) {
            for (int what = 0; what < 4; what++) {
                h = fold(h, x.lane(lane, what));
            }
        }
        if (x.count(8) > 0) {
            String[] calls = {"status()", "whose(0)", "whose(1)", "by(0)", "by(1)", "lost()", "ways()", "parting(0)", "parting(1)",
                "bought(0)", "bought(1)", "likely(0,0)", "likely(0,1)", "likely(1,0)", "likely(1,1)", "likely(2,0)", "likely(2,1)"};
            for (String call : calls) {
                h = fold(h, Calls.ask(x, call));
            }
        }
        for (int kind : kinds) {
            h = fold(h, kind);
        }
        for (int i = 0; i < letters.length(); i++) {
            h = fold(h, letters.charAt(i));
        }
        for (int what = 0; what < 10; what++) {
            h = fold(h, x.count(what));
        }
        return h;
    }

    // Of each LANE .. with a NET .. of each PLAYER its KIND; letters of THE PAGE, each by its code.
    private static void digestOfAll() {
        String[] nets = {"", "ab:ab", "ab:ab+", "ab:ab-", LAST, LONGEST, BRIDGE, "ab:ac5,cb,cb+2,ad-9,db"};
        String[] letters = {"", "a", "\1~", "z".repeat(49), "ab:cd,".repeat(8) + "~~"};
        int[][] kinds = {{}, {0}, {4}, {3, 2}, {4, 3, 2, 1, 0}, {1, 1, 1, 1, 1}};
        for (String net : nets) {
            for (String page : letters) {
                for (int[] some : kinds) {
                    CutsOrFast x = net.isEmpty() ? new CutsOrFast() : Check.made(net);
                    for (int kind : some) {
                        x.player(kind);
                    }
                    Check.write(x, page);
                    CHECK.due("27: " + net + ", players " + some.length + ", page " + page, x.digest(), digestBy(x, some, page));
                }
            }
        }
    }

    private static void digestBehindCalls() {
        CutsOrFast x = Check.made(BRIDGE);
        int[] none = {};
        CHECK.due("27: JOIN first", x.digest(), digestBy(x, none, ""));
        x.begin(1);
        CHECK.due("27: CUT first", x.digest(), digestBy(x, none, ""));
        for (int lane = 4; lane >= 0; lane--) {
            x.take(lane);
            CHECK.due("27: behind a move", x.digest(), digestBy(x, none, ""));
        }
        x.mend(0);
        x.mend(1);
        CHECK.due("27: behind mend()", x.digest(), digestBy(x, none, ""));
        CHECK.due("27: it is done by no mend()", x.count(9), 2);
        x.back();
        CHECK.due("27: behind back()", x.digest(), digestBy(x, none, ""));
    }

    // Refusals, of several the first as told by each call; they change nothing.
    private static void refusalsChangeNothing() {
        String[] always = {"letters(127) OUTSIDE", "letters(256) OUTSIDE", "letters(-1) OUTSIDE", "lane(-1,0) UNKNOWN", "lane(9,0) UNKNOWN",
            "lane(9,4) UNKNOWN", "begin(2) UNKNOWN", "begin(-1) UNKNOWN", "take(-1) UNKNOWN", "take(9) UNKNOWN", "whose(2) UNKNOWN",
            "whose(-1) UNKNOWN", "by(2) UNKNOWN", "by(-1) UNKNOWN", "answer(-1) UNKNOWN", "answer(9) UNKNOWN", "player(-1) OUTSIDE",
            "player(5) OUTSIDE", "as(5,0) UNKNOWN", "as(-1,5) UNKNOWN", "as(0,5) OUTSIDE", "as(0,-1) OUTSIDE", "move(5,0) UNKNOWN",
            "move(-1,-1) UNKNOWN", "game(5,0,0,0) UNKNOWN", "game(0,5,-1,4) UNKNOWN", "count(-1) OUTSIDE", "count(10) OUTSIDE",
            "net() STATE"};
        String[] withoutNet = {"lane(0,0) UNKNOWN", "status() STATE", "begin(0) STATE", "begin(1) STATE", "take(0) UNKNOWN", "back() STATE",
            "whose(0) STATE", "by(1) STATE", "answer(0) UNKNOWN", "lost() STATE", "ways() STATE", "parting(0) STATE", "parting(2) STATE",
            "mend(0) STATE", "mend(3) STATE", "bought(1) STATE", "bought(-1) STATE", "likely(0,0) STATE", "likely(3,2) STATE",
            "move(0,0) STATE", "move(0,-1) STATE", "game(0,0,0,0) STATE", "game(0,0,-1,4) STATE", "image() STATE", "restore() STATE"};
        String[] withNet = {"lane(0,4) OUTSIDE", "lane(0,-1) OUTSIDE", "parting(2) OUTSIDE", "parting(-1) OUTSIDE", "mend(3) OUTSIDE",
            "mend(-1) OUTSIDE", "bought(2) OUTSIDE", "bought(-1) OUTSIDE", "likely(3,0) OUTSIDE", "likely(-1,0) OUTSIDE",
            "likely(0,2) OUTSIDE", "likely(0,-1) OUTSIDE", "game(0,0,-1,0) OUTSIDE", "game(0,0,0,4) OUTSIDE", "game(0,0,0,-1) OUTSIDE"};
        String[] going = {"move(0,-1) OUTSIDE", "begin(0) STATE", "begin(1) STATE", "take(0) STATE", "answer(0) STATE"};
        String[] over = {"move(0,0) STATE", "move(0,-1) STATE", "begin(1) STATE", "take(0) STATE", "take(1) STATE", "take(2) STATE",
            "answer(0) STATE", "answer(1) STATE", "answer(2) STATE"};
        CutsOrFast x = new CutsOrFast();
        x.player(0);
        refused(x, always);
        refused(x, withoutNet);
        Check.write(x, "ab:");
        refused(x, always);
        refused(x, withoutNet);
        x = Check.made("ab:ac,cb,cb");
        x.player(0);
        Calls.run(CHECK, "refusals", x, "begin(1) 0", "image() 0", "begin(0) 1", "take(0) 1");
        refused(x, always);
        refused(x, withNet);
        refused(x, going);
        Calls.run(CHECK, "refusals, the page and the players are full", x, "page " + "a".repeat(50), "player(0) 1", "player(0) 2",
            "player(0) 3", "player(0) 4");
        refused(x, "letters(97) FULL", "letters(127) OUTSIDE", "player(0) FULL", "player(5) OUTSIDE");
        Calls.run(CHECK, "refusals, joined", x, "take(1) 2", "take(2) 3", "status() 1");
        refused(x, always);
        refused(x, withNet);
        refused(x, over);
        Calls.run(CHECK, "refusals, the moves and the image stand", x, "back() 2", "back() 1", "lane(0,2) 1", "restore() 0", "count(5) 1",
            "count(1) 3");
    }

    private static void refused(CutsOrFast x, String... steps) {
        long before = x.digest();
        for (String step : steps) {
            Calls.run(CHECK, "refusals", x, step);
            CHECK.due("refusals, behind " + step, x.digest(), before);
        }
    }

    // An object is used for at most 512 calls after it has been made.
    private static void fiveHundredAndTwelveCalls() {
        Random r = new Random(512);
        for (int run = 0; run < 20; run++) {
            CutsOrFast x = new CutsOrFast();
            Slow y = new Slow();
            for (int call = 1; call <= 512; call++) {
                String name = Calls.NAMES.get(r.nextInt(Calls.NAMES.size()));
                int[] numbers = {r.nextInt(4), r.nextInt(3), r.nextInt(4), r.nextInt(4)};
                long word = Check.packed(r.nextInt(3) == 0 ? "ab:ab,bc" : ",ca,cb");
                if (call >= 511 || name.equals("blank") && r.nextInt(3) > 0) {
                    name = call == 511 ? "lost" : "digest";
                }
                CHECK.due("call " + call + ": " + name, Calls.ask(x, name, numbers, word), Calls.ask(y, name, numbers, word));
            }
        }
    }

    /** All calls live in one room: what an object holds, once made, is counted, and calls make nothing but players. */
    private static void room() {
        CutsOrFast x = Check.made("ab:ac,cb,ad,db,cd,ae,eb,af,fb");
        long[] atFirst = held(x);
        for (int call = 0; call < 20; call++) {
            x.mend(0);
            x.digest();
            x.player(call % 5);
            x.take(call % 9);
        }
        long[] then = held(x);
        // Of one room, 600,000 objects and 7,300,000 elements, there must be enough for two hundred.
        CHECK.due("objects of a new one: " + atFirst[0], 200 * atFirst[0] < 600_000);
        CHECK.due("elements of a new one: " + atFirst[1], 200 * atFirst[1] < 7_300_000);
        CHECK.due("objects more: " + (then[0] - atFirst[0]), then[0] - atFirst[0] <= 5 * 3);
        CHECK.due("elements more: " + (then[1] - atFirst[1]), then[1] - atFirst[1] <= 5 * 20);
        CutsOrFast y = Check.made("ab:ac,cb,ad,db,cd,ae,eb,af,fb");
        y.player(1);
        y.player(4);
        dearCalls(y, 20);
        long before = allocated();
        dearCalls(y, 20);
        long made = allocated() - before;
        CHECK.due("bytes made by calls: " + made, made < 4000);
    }

    private static void dearCalls(CutsOrFast x, int times) {
        for (int i = 0; i < times; i++) {
            x.begin(i % 2);
            x.mend(0);
            x.digest();
            x.fault();
            x.game(0, 1, i, 0);
            x.image();
            x.restore();
        }
    }

    private static long allocated() {
        return ((com.sun.management.ThreadMXBean) java.lang.management.ManagementFactory.getThreadMXBean())
            .getThreadAllocatedBytes(Thread.currentThread().getId());
    }

    /** How many objects and arrays hang on an object, and how many fields and elements they have. */
    private static long[] held(Object from) {
        long[] sum = new long[2];
        try {
            add(from, new IdentityHashMap<>(), sum);
        } catch (IllegalAccessException e) {
            throw new IllegalStateException(e);
        }
        return sum;
    }

    private static void add(Object one, Map<Object, Object> seen, long[] sum) throws IllegalAccessException {
        if (one == null || seen.put(one, one) != null) {
            return;
        }
        sum[0]++;
        if (one.getClass().isArray()) {
            sum[1] += Array.getLength(one);
            for (int i = 0; i < Array.getLength(one) && !one.getClass().getComponentType().isPrimitive(); i++) {
                add(Array.get(one, i), seen, sum);
            }
            return;
        }
        for (Class<?> kind = one.getClass(); kind != Object.class; kind = kind.getSuperclass()) {
            for (Field field : kind.getDeclaredFields()) {
                if (!Modifier.isStatic(field.getModifiers())) {
                    sum[1]++;
                    field.setAccessible(true);
                    if (!field.getType().isPrimitive()) {
                        add(field.get(one), seen, sum);
                    }
                }
            }
        }
    }
}
