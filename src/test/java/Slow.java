import java.math.BigInteger;
import java.util.ArrayDeque;
import java.util.ArrayList;
import java.util.Arrays;
import java.util.HashMap;
import java.util.List;
import java.util.Map;
import java.util.TreeSet;
import java.util.regex.Matcher;
import java.util.regex.Pattern;

/**
 * The document once more, in the slowest and most literal way, sharing nothing with CutsOrFast: texts as stands, lists
 * of lanes as sets, fractions for how likely it is, ways one by one. The tests by chance hold the two against each other.
 */
final class Slow {
    static final int NONE = -1, UNKNOWN = -101, OUTSIDE = -102, STATE = -103, FULL = -104;

    private static final String LANE = "([a-f])(?!\\%d)[a-f][+-]?[1-9]?";
    private static final Pattern NET = netPattern();

    private StringBuilder page = new StringBuilder();
    private String text = "";
    private int[] one = {}, other = {}, cost = {};
    private int endOne, endOther;
    private char[] now = {};
    private int mover;
    private List<Integer> moves = new ArrayList<>();
    private char[] keptNow;
    private int keptMover;
    private List<Integer> keptMoves;
    private final List<Integer> players = new ArrayList<>();
    private int nets, mends;
    private final Map<String, Boolean> joinHas = new HashMap<>();

    private static Pattern netPattern() {
        StringBuilder all = new StringBuilder("([a-f])(?!\\1)[a-f]:" + String.format(LANE, 2));
        int group = 3;
        String tail = "";
        StringBuilder nested = new StringBuilder();
        for (int i = 1; i < 9; i++) {
            nested.append("(?:,").append(String.format(LANE, group));
            tail += ")?";
            group++;
        }
        return Pattern.compile(all + nested.toString() + tail);
    }

    int letters(long w) {
        StringBuilder more = new StringBuilder();
        boolean over = false;
        for (int i = 0; i < 8; i++) {
            int b = (int) (w >> (8 * i)) & 0xff;
            if (b > 126) return OUTSIDE;
            if (b == 0) over = true;
            else if (over) return OUTSIDE;
            else more.append((char) b);
        }
        if (page.length() + more.length() > 50) return FULL;
        page.append(more);
        return page.length();
    }

    int blank() {
        int had = page.length();
        page = new StringBuilder();
        return had;
    }

    int fault() {
        for (int i = 0; i < page.length(); i++) {
            Matcher m = NET.matcher(page.substring(0, i + 1));
            if (!m.matches() && !m.hitEnd()) return i;
        }
        return page.length();
    }

    int net() {
        if (!NET.matcher(page).matches()) return STATE;
        text = page.toString();
        page = new StringBuilder();
        String[] lanes = text.substring(3).split(",");
        int n = lanes.length;
        endOne = text.charAt(0) - 'a';
        endOther = text.charAt(1) - 'a';
        one = new int[n];
        other = new int[n];
        cost = new int[n];
        now = new char[n];
        for (int i = 0; i < n; i++) {
            one[i] = lanes[i].charAt(0) - 'a';
            other[i] = lanes[i].charAt(1) - 'a';
            String rest = lanes[i].substring(2);
            now[i] = rest.contains("+") ? 'F' : rest.contains("-") ? 'C' : 'O';
            String digits = rest.replaceAll("[+-]", "");
            cost[i] = digits.isEmpty() ? 1 : Integer.parseInt(digits);
        }
        mover = 0;
        moves = new ArrayList<>();
        keptNow = null;
        nets++;
        joinHas.clear();
        return n;
    }

    private boolean noNet() {
        return nets == 0;
    }

    private boolean noLane(int lane) {
        return lane < 0 || lane >= one.length;
    }

    int lane(int lane, int what) {
        if (noLane(lane)) return UNKNOWN;
        if (what == 0) return one[lane];
        if (what == 1) return other[lane];
        if (what == 2) return "OFC".indexOf(now[lane]);
        if (what == 3) return cost[lane];
        return OUTSIDE;
    }

    /** Which places hang together with a place by the lanes that are of these kinds and not left out. */
    private static TreeSet<Integer> hanging(int from, int[] one, int[] other, boolean[] in) {
        TreeSet<Integer> found = new TreeSet<>();
        ArrayDeque<Integer> next = new ArrayDeque<>();
        found.add(from);
        next.add(from);
        while (!next.isEmpty()) {
            int p = next.poll();
            for (int i = 0; i < one.length; i++) {
                if (!in[i]) continue;
                if (one[i] == p && found.add(other[i])) next.add(other[i]);
                if (other[i] == p && found.add(one[i])) next.add(one[i]);
            }
        }
        return found;
    }

    private int outcome(int[] one, int[] other, char[] s) {
        boolean[] fast = new boolean[s.length];
        boolean[] uncut = new boolean[s.length];
        for (int i = 0; i < s.length; i++) {
            fast[i] = s[i] == 'F';
            uncut[i] = s[i] != 'C';
        }
        if (hanging(endOne, one, other, fast).contains(endOther)) return 1;
        return hanging(endOne, one, other, uncut).contains(endOther) ? 0 : 2;
    }

    int status() {
        return noNet() ? STATE : outcome(one, other, now);
    }

    /** Whether JOIN has it, straight from the rules, each stand once. */
    private boolean has(int[] one, int[] other, char[] s, int who, Map<String, Boolean> seen) {
        int end = outcome(one, other, s);
        if (end != 0) return end == 1;
        String key = new String(s) + who;
        Boolean known = seen.get(key);
        if (known != null) return known;
        boolean some = false;
        boolean every = true;
        for (int i = 0; i < s.length; i++) {
            if (s[i] != 'O') continue;
            s[i] = who == 0 ? 'F' : 'C';
            boolean joins = has(one, other, s, 1 - who, seen);
            s[i] = 'O';
            some |= joins;
            every &= joins;
            if (who == 0 ? some : !every) break;
        }
        boolean answer = who == 0 ? some : every;
        seen.put(key, answer);
        return answer;
    }

    private int owner(char[] s, int who) {
        return has(one, other, s.clone(), who, joinHas) ? 0 : 1;
    }

    int begin(int who) {
        if (who != 0 && who != 1) return UNKNOWN;
        if (noNet() || !moves.isEmpty()) return STATE;
        int was = mover;
        mover = who;
        return was;
    }

    int take(int lane) {
        if (noLane(lane)) return UNKNOWN;
        if (status() != 0 || now[lane] != 'O') return STATE;
        now[lane] = mover == 0 ? 'F' : 'C';
        moves.add(lane);
        mover = 1 - mover;
        return moves.size();
    }

    int back() {
        if (noNet() || moves.isEmpty()) return STATE;
        now[moves.remove(moves.size() - 1)] = 'O';
        mover = 1 - mover;
        return moves.size();
    }

    int whose(int who) {
        if (who != 0 && who != 1) return UNKNOWN;
        return noNet() ? STATE : owner(now, who);
    }

    private int leastBy(char[] s, int who) {
        if (outcome(one, other, s) != 0) return NONE;
        for (int i = 0; i < s.length; i++) {
            if (s[i] != 'O') continue;
            char[] behind = s.clone();
            behind[i] = who == 0 ? 'F' : 'C';
            if (owner(behind, 1 - who) == who) return i;
        }
        return NONE;
    }

    int by(int who) {
        if (who != 0 && who != 1) return UNKNOWN;
        return noNet() ? STATE : leastBy(now, who);
    }

    int answer(int lane) {
        if (noLane(lane)) return UNKNOWN;
        if (status() != 0 || now[lane] != 'O') return STATE;
        char[] behind = now.clone();
        behind[lane] = 'C';
        return leastBy(behind, 0);
    }

    int lost() {
        if (noNet()) return STATE;
        char[] s = now.clone();
        for (int m : moves) s[m] = 'O';
        int who = moves.size() % 2 == 0 ? mover : 1 - mover;
        for (int i = 0; i < moves.size(); i++) {
            int ahead = owner(s, who);
            s[moves.get(i)] = who == 0 ? 'F' : 'C';
            int behind = owner(s, 1 - who);
            if (ahead == who && behind != who) return i;
            who = 1 - who;
        }
        return NONE;
    }

    int ways() {
        if (noNet()) return STATE;
        TreeSet<Integer> due = new TreeSet<>(Arrays.asList(endOne, endOther));
        for (int i = 0; i < one.length; i++) {
            due.add(one[i]);
            due.add(other[i]);
        }
        for (int set = 0; set < 1 << one.length; set++) {
            boolean[] these = new boolean[one.length];
            boolean[] rest = new boolean[one.length];
            boolean right = true;
            for (int i = 0; i < one.length; i++) {
                these[i] = (set >> i) % 2 == 1;
                right &= !(these[i] && now[i] == 'C');
                rest[i] = now[i] == 'F' || now[i] == 'O' && !these[i];
            }
            if (right && hanging(endOne, one, other, these).containsAll(due)
                && hanging(endOther, one, other, rest).containsAll(due)) return set;
        }
        return NONE;
    }

    int parting(int what) {
        if (noNet()) return STATE;
        if (what != 0 && what != 1) return OUTSIDE;
        for (int many = 0; many <= one.length; many++) {
            for (int set = 0; set < 1 << one.length; set++) {
                if (Integer.bitCount(set) == many && with(set, 'C') != null
                    && outcome(one, other, with(set, 'C')) == 2) return what == 0 ? many : set;
            }
        }
        return NONE;
    }

    /** The stand with a set of open lanes made to something; null, if one of them is not open. */
    private char[] with(int set, char to) {
        char[] s = now.clone();
        for (int i = 0; i < s.length; i++) {
            if ((set >> i) % 2 == 1) {
                if (s[i] != 'O') return null;
                s[i] = to;
            }
        }
        return s;
    }

    int mend(int what) {
        if (noNet() || mends == 20) return STATE;
        if (what < 0 || what > 2) return OUTSIDE;
        mends++;
        if (owner(now, 1) == 0) return what == 0 ? 0 : NONE;
        for (int p = 0; p < 6; p++) {
            for (int q = p + 1; q < 6; q++) {
                int n = one.length;
                int[] more1 = Arrays.copyOf(one, n + 1);
                int[] more2 = Arrays.copyOf(other, n + 1);
                char[] s = Arrays.copyOf(now, n + 1);
                more1[n] = p;
                more2[n] = q;
                s[n] = 'O';
                if (has(more1, more2, s, 1, new HashMap<>())) return what == 0 ? 1 : what == 1 ? p : q;
            }
        }
        return what == 0 ? 2 : NONE;
    }

    int bought(int what) {
        if (noNet()) return STATE;
        if (what != 0 && what != 1) return OUTSIDE;
        for (int money = 0; money <= 81; money++) {
            for (int set = 0; set < 1 << one.length; set++) {
                int sum = 0;
                for (int i = 0; i < one.length; i++) sum += (set >> i) % 2 * cost[i];
                char[] s = with(set, 'F');
                if (sum == money && s != null && owner(s, 1) == 0) return what == 0 ? money : set;
            }
        }
        return NONE;
    }

    private BigInteger[] chance(int how, char[] s, int who, Map<String, BigInteger[]> seen) {
        int end = outcome(one, other, s);
        if (end == 1) return new BigInteger[] {BigInteger.ONE, BigInteger.ONE};
        if (end == 2) return new BigInteger[] {BigInteger.ZERO, BigInteger.ONE};
        String key = new String(s) + who;
        if (seen.containsKey(key)) return seen.get(key);
        boolean random = how == 2 || how == 0 && who == 1 || how == 1 && who == 0;
        BigInteger[] sum = {BigInteger.ZERO, BigInteger.ONE};
        BigInteger[] best = null;
        int many = 0;
        for (int i = 0; i < s.length; i++) {
            if (s[i] != 'O') continue;
            s[i] = who == 0 ? 'F' : 'C';
            BigInteger[] c = chance(how, s, 1 - who, seen);
            s[i] = 'O';
            many++;
            sum = lowest(sum[0].multiply(c[1]).add(c[0].multiply(sum[1])), sum[1].multiply(c[1]));
            int sign = best == null ? 0 : c[0].multiply(best[1]).compareTo(best[0].multiply(c[1]));
            if (best == null || (who == 0 ? sign > 0 : sign < 0)) best = c;
        }
        BigInteger[] answer = random ? lowest(sum[0], sum[1].multiply(BigInteger.valueOf(many))) : best;
        seen.put(key, answer);
        return answer;
    }

    private static BigInteger[] lowest(BigInteger above, BigInteger below) {
        BigInteger g = above.gcd(below);
        return new BigInteger[] {above.divide(g), below.divide(g)};
    }

    int likely(int how, int part) {
        if (noNet()) return STATE;
        if (how < 0 || how > 2 || part < 0 || part > 1) return OUTSIDE;
        return chance(how, now.clone(), mover, new HashMap<>())[part].intValueExact();
    }

    int player(int kind) {
        if (kind < 0 || kind > 4) return OUTSIDE;
        if (players.size() == 5) return FULL;
        players.add(kind);
        return players.size() - 1;
    }

    private boolean noPlayer(int p) {
        return p < 0 || p >= players.size();
    }

    int as(int p, int kind) {
        if (noPlayer(p)) return UNKNOWN;
        if (kind < 0 || kind > 4) return OUTSIDE;
        int own = players.get(p);
        return kind == 0 || kind == own || kind == 2 && own == 3 ? p : NONE;
    }

    /** All lanes on shortest ways: every way without a place twice is gone, and the shortest ones are kept. */
    private TreeSet<Integer> onShortest(char[] s) {
        TreeSet<Integer> lanes = new TreeSet<>();
        int[] best = {99};
        goOn(s, endOne, new boolean[6], new ArrayList<>(), best, lanes);
        lanes.removeIf(i -> s[i] != 'O');
        return lanes;
    }

    private void goOn(char[] s, int at, boolean[] been, List<Integer> way, int[] best, TreeSet<Integer> lanes) {
        if (at == endOther) {
            int length = 0;
            for (int i : way) length += s[i] == 'O' ? 1 : 0;
            if (length < best[0]) {
                best[0] = length;
                lanes.clear();
            }
            if (length == best[0]) lanes.addAll(way);
            return;
        }
        been[at] = true;
        for (int i = 0; i < s.length; i++) {
            if (s[i] == 'C' || one[i] != at && other[i] != at) continue;
            int to = one[i] == at ? other[i] : one[i];
            if (been[to]) continue;
            way.add(i);
            goOn(s, to, been, way, best, lanes);
            way.remove(way.size() - 1);
        }
        been[at] = false;
    }

    private int choice(int kind, char[] s, int who, long[] seed) {
        List<Integer> open = new ArrayList<>();
        for (int i = 0; i < s.length; i++) if (s[i] == 'O') open.add(i);
        if (kind == 0) return open.get(0);
        if (kind == 1) return leastBy(s, who) == NONE ? open.get(0) : leastBy(s, who);
        if (kind == 4) {
            BigInteger next = BigInteger.valueOf(1103515245).multiply(BigInteger.valueOf(seed[0]));
            seed[0] = next.add(BigInteger.valueOf(12345)).mod(BigInteger.TWO.pow(31)).longValueExact();
            return open.get((int) (seed[0] / 65536 % open.size()));
        }
        int chosen = NONE;
        for (int i : onShortest(s)) if (chosen == NONE || kind == 3 && cost[i] > cost[chosen]) chosen = i;
        return chosen;
    }

    int move(int p, int seed) {
        if (noPlayer(p)) return UNKNOWN;
        if (noNet() || status() != 0) return STATE;
        if (seed < 0) return OUTSIDE;
        return choice(players.get(p), now.clone(), mover, new long[] {seed});
    }

    int game(int join, int cut, int seed, int what) {
        if (noPlayer(join) || noPlayer(cut)) return UNKNOWN;
        if (noNet()) return STATE;
        if (seed < 0 || what < 0 || what > 3) return OUTSIDE;
        char[] s = now.clone();
        int who = mover;
        int many = 0;
        long[] left = {seed};
        while (outcome(one, other, s) == 0) {
            s[choice(players.get(who == 0 ? join : cut), s, who, left)] = who == 0 ? 'F' : 'C';
            who = 1 - who;
            many++;
        }
        int fast = 0;
        for (int i = 0; i < s.length; i++) if (s[i] == 'F') fast += 1 << i;
        return what == 0 ? outcome(one, other, s) - 1 : what == 1 ? many : what == 2 ? fast : (int) left[0];
    }

    int image() {
        if (noNet()) return STATE;
        keptNow = now.clone();
        keptMover = mover;
        keptMoves = new ArrayList<>(moves);
        return moves.size();
    }

    int restore() {
        if (keptNow == null) return STATE;
        now = keptNow.clone();
        mover = keptMover;
        moves = new ArrayList<>(keptMoves);
        return moves.size();
    }

    int count(int what) {
        if (what == 0) return one.length;
        if (what >= 1 && what <= 3) {
            int many = 0;
            for (char c : now) if (c == "OFC".charAt(what - 1)) many++;
            return many;
        }
        int[] rest = {moves.size(), mover, players.size(), page.length(), nets, mends};
        return what >= 4 && what <= 9 ? rest[what - 4] : OUTSIDE;
    }

    long digest() {
        List<Integer> all = new ArrayList<>();
        for (int i = 0; i < one.length; i++) for (int w = 0; w < 4; w++) all.add(lane(i, w));
        if (!noNet()) {
            all.addAll(List.of(status(), whose(0), whose(1), by(0), by(1), lost(), ways()));
            all.addAll(List.of(parting(0), parting(1), bought(0), bought(1)));
            for (int how = 0; how < 3; how++) all.addAll(List.of(likely(how, 0), likely(how, 1)));
        }
        all.addAll(players);
        for (int i = 0; i < page.length(); i++) all.add((int) page.charAt(i));
        for (int w = 0; w < 10; w++) all.add(count(w));
        long h = 587;
        for (int a : all) h = 31 * h + a;
        return h;
    }

    /**
     * Whether JOIN has it though CUT begins, as Lehman has proved it: there are places, both ends among them, that
     * hang together by two sets of lanes between them that share none but fast ones.
     */
    boolean hasByTwoTrees() {
        for (int places = 0; places < 64; places++) {
            if ((places >> endOne) % 2 == 0 || (places >> endOther) % 2 == 0) continue;
            for (int set = 0; set < 1 << one.length; set++) {
                if (twoTrees(places, set)) return true;
            }
        }
        return false;
    }

    private boolean twoTrees(int places, int set) {
        boolean[] these = new boolean[one.length];
        boolean[] rest = new boolean[one.length];
        for (int i = 0; i < one.length; i++) {
            boolean within = (places >> one[i]) % 2 == 1 && (places >> other[i]) % 2 == 1;
            boolean chosen = (set >> i) % 2 == 1;
            these[i] = within && (now[i] == 'F' || now[i] == 'O' && chosen);
            rest[i] = within && (now[i] == 'F' || now[i] == 'O' && !chosen);
        }
        return hanging(endOne, one, other, these).size() == Integer.bitCount(places)
            && hanging(endOne, one, other, rest).size() == Integer.bitCount(places);
    }
}
