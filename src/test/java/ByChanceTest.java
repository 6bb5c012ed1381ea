import java.util.Random;

/** Runs of calls by chance, answered by CutsOrFast and by Slow: both must answer alike. */
public final class ByChanceTest {
    public static void main(String[] args) {
        long from = args.length > 0 ? Long.parseLong(args[0]) : 1;
        int runs = args.length > 1 ? Integer.parseInt(args[1]) : 120;
        Check check = new Check("ByChanceTest");
        for (int run = 0; run < runs; run++) {
            run(check, from + run);
            mendOfNine(check, from + run);
        }
        wildCalls(check, from);
        check.end();
    }

    private static void run(Check check, long seed) {
        Random r = new Random(seed);
        CutsOrFast x = new CutsOrFast();
        Slow y = new Slow();
        int small = 3 + r.nextInt(4);
        for (int i = 0; i < 200; i++) {
            if (r.nextInt(20) == 0 || i == 3) {
                writeNet(r, x, y, small);
            }
            String call = Calls.NAMES.get(r.nextInt(Calls.NAMES.size()));
            if (r.nextInt(4) == 0) {
                call = "take";
            }
            int[] a = {number(r), number(r), number(r), number(r)};
            if (call.equals("move") || call.equals("game")) {
                a[call.equals("move") ? 1 : 2] = r.nextInt(9) == 0 ? -r.nextInt(9) : r.nextInt() & 0x7fffffff;
            }
            long w = word(r);
            long got = Calls.ask(x, call, a, w);
            long want = Calls.ask(y, call, a, w);
            check.due("seed " + seed + ", call " + i + ": " + call, got, want);
            if (call.equals("net") || i % 40 == 39) {
                check.due("seed " + seed + ", call " + i + ": digest behind " + call, x.digest(), y.digest());
                if (y.count(0) > 0) {
                    check.due("seed " + seed + ", two trees", (x.whose(1) == 0) == y.hasByTwoTrees());
                }
            }
        }
    }

    /** The net with the most lanes, so that the one that mends is the tenth. */
    private static void mendOfNine(Check check, long seed) {
        Random r = new Random(~seed);
        int places = 4 + r.nextInt(3);
        StringBuilder text = new StringBuilder(pair(r, places)).append(':');
        for (int i = 0; i < 9; i++) {
            text.append(i == 0 ? "" : ",").append(pair(r, places));
        }
        CutsOrFast x = new CutsOrFast();
        Slow y = new Slow();
        for (int at = 0; at < text.length(); at += 8) {
            long w = Check.packed(text.substring(at, Math.min(at + 8, text.length())));
            x.letters(w);
            y.letters(w);
        }
        x.net();
        y.net();
        check.due("the likely one of " + text, x.likely(0, 0), y.likely(0, 0));
        for (int what = 0; what < 3; what++) {
            check.due("mend " + what + " of " + text, x.mend(what), y.mend(what));
        }
        check.due("digest of " + text, x.digest(), y.digest());
    }

    /** Any arguments at all, and more calls than an object is made for: each must only come back. */
    private static void wildCalls(Check check, long seed) {
        Random r = new Random(seed);
        CutsOrFast x = Check.made("ab:ac,cb,ad,db,cd,ae,eb,af,fb");
        int[] edges = {Integer.MIN_VALUE, Integer.MAX_VALUE, -1, 0, 1, 4, 5, 8, 9, 31, 32, 33};
        for (int i = 0; i < 4000; i++) {
            int[] a = new int[4];
            for (int k = 0; k < 4; k++) {
                a[k] = r.nextInt(3) == 0 ? r.nextInt() : edges[r.nextInt(edges.length)];
            }
            if (i % 100 == 99) {
                x.blank();
                Check.write(x, "fe:fa,ab,bc,cd,de,fe,ac,bd,ce");
                x.net();
            }
            Calls.ask(x, Calls.NAMES.get(r.nextInt(Calls.NAMES.size())), a, r.nextLong() & r.nextLong());
        }
        check.due("it still reads", x.count(8) > 1);
    }

    private static int number(Random r) {
        int kind = r.nextInt(12);
        if (kind == 0) {
            return r.nextInt();
        }
        return kind == 1 ? r.nextInt(14) - 2 : kind < 7 ? r.nextInt(3) : r.nextInt(9);
    }

    private static long word(Random r) {
        if (r.nextInt(8) == 0) {
            return r.nextLong();
        }
        return Check.packed("ab:,+-123acdfgh".substring(r.nextInt(7)).substring(0, r.nextInt(5)));
    }

    /** Mostly a right text, at times with one letter wrong. */
    private static void writeNet(Random r, CutsOrFast x, Slow y, int places) {
        StringBuilder text = new StringBuilder(pair(r, places)).append(':');
        int lanes = 1 + Math.max(r.nextInt(9), r.nextInt(9));
        for (int i = 0; i < lanes; i++) {
            text.append(i == 0 ? "" : ",").append(pair(r, places));
            int sign = r.nextInt(12);
            text.append(sign == 0 ? "+" : sign == 1 ? "-" : "").append(r.nextInt(2) == 0 ? "" : "" + (1 + r.nextInt(9)));
        }
        if (r.nextInt(6) == 0) {
            text.setCharAt(r.nextInt(text.length()), "abcdefg:,+-0159".charAt(r.nextInt(15)));
        }
        if (r.nextInt(10) == 0) {
            text.setLength(r.nextInt(text.length()));
        }
        x.blank();
        y.blank();
        for (int at = 0; at < text.length(); at += 8) {
            long w = Check.packed(text.substring(at, Math.min(at + 8, text.length())));
            x.letters(w);
            y.letters(w);
        }
        if (r.nextInt(4) > 0) {
            x.net();
            y.net();
        }
    }

    private static String pair(Random r, int places) {
        int a = r.nextInt(places);
        int b = (a + 1 + r.nextInt(places - 1)) % places;
        return "" + (char) ('a' + a) + (char) ('a' + b);
    }
}
