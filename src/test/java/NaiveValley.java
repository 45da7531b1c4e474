import java.util.ArrayList;
import java.util.Arrays;
import java.util.List;

/**
 * The document's terms, each in its plainest form and by other ways than the program's: whole tables
 * of costs, closures, all sets. Slow; for the tests alone.
 */
final class NaiveValley {
    static final int FAR = 1_000_000;

    int people = 4;
    int habits = 2;
    int answer = 0;
    boolean stays = false;
    int[][] gets = new int[4][4];
    boolean[][] meets = new boolean[10][10];
    int[] keeps = new int[10];
    int[] slip = {1, 1, 1, 1};

    int codes;
    List<Integer> states;
    boolean[][] reach;
    int[][] cost;
    List<List<Integer>> rests;
    int[] home;

    NaiveValley() {
        for (int i = 0; i < 4; i++) {
            gets[i][i] = 1;
        }
        Arrays.fill(keeps, -1);
    }

    void meetAll() {
        for (int a = 0; a < people; a++) {
            for (int b = 0; b < people; b++) {
                meets[a][b] = a != b;
            }
        }
    }

    NaiveValley copy() {
        NaiveValley n = new NaiveValley();
        n.people = people;
        n.habits = habits;
        n.answer = answer;
        n.stays = stays;
        for (int i = 0; i < 4; i++) {
            n.gets[i] = gets[i].clone();
        }
        for (int i = 0; i < 10; i++) {
            n.meets[i] = meets[i].clone();
        }
        n.keeps = keeps.clone();
        n.slip = slip.clone();
        return n;
    }

    int[] decode(int s) {
        int[] h = new int[people];
        for (int p = 0; p < people; p++) {
            h[p] = s % habits;
            s /= habits;
        }
        return h;
    }

    int encode(int[] h) {
        int s = 0;
        for (int p = people - 1; p >= 0; p--) {
            s = s * habits + h[p];
        }
        return s;
    }

    boolean isState(int s) {
        if (s < 0 || s >= Math.round(Math.pow(habits, people))) {
            return false;
        }
        int[] h = decode(s);
        for (int p = 0; p < people; p++) {
            if (keeps[p] >= 0 && keeps[p] != h[p]) {
                return false;
            }
        }
        return true;
    }

    boolean free(int p) {
        return keeps[p] < 0;
    }

    int freeBits() {
        int bits = 0;
        for (int p = 0; p < people; p++) {
            bits |= free(p) ? 1 << p : 0;
        }
        return bits;
    }

    int meetBits(int p) {
        int bits = 0;
        for (int q = 0; q < people; q++) {
            bits |= meets[p][q] ? 1 << q : 0;
        }
        return bits;
    }

    int worth(int s, int p) {
        int[] h = decode(s);
        int sum = 0;
        for (int q = 0; q < people; q++) {
            if (meets[p][q]) {
                sum += gets[h[p]][h[q]];
            }
        }
        return sum;
    }

    int with(int s, int p, int a) {
        int[] h = decode(s);
        h[p] = a;
        return encode(h);
    }

    int answers(int s, int p) {
        if (!free(p)) {
            return 1 << keeps[p];
        }
        int[] h = decode(s);
        int bits = 0;
        if (answer == 0) {
            int most = -1;
            for (int a = 0; a < habits; a++) {
                most = Math.max(most, worth(with(s, p, a), p));
            }
            for (int a = 0; a < habits; a++) {
                bits |= worth(with(s, p, a), p) == most ? 1 << a : 0;
            }
        } else if (answer == 1) {
            int[] n = new int[habits];
            for (int q = 0; q < people; q++) {
                if (meets[p][q]) {
                    n[h[q]]++;
                }
            }
            int most = Arrays.stream(n).max().getAsInt();
            for (int a = 0; a < habits; a++) {
                bits |= n[a] == most ? 1 << a : 0;
            }
        } else {
            int most = worth(s, p);
            for (int q = 0; q < people; q++) {
                if (meets[p][q]) {
                    most = Math.max(most, worth(s, q));
                }
            }
            for (int q = 0; q < people; q++) {
                if ((q == p || meets[p][q]) && worth(s, q) == most) {
                    bits |= 1 << h[q];
                }
            }
        }
        return stays && (bits >> h[p] & 1) != 0 ? 1 << h[p] : bits;
    }

    int price(int s, int p, int a) {
        return (answers(s, p) >> a & 1) != 0 ? 0 : slip[a];
    }

    /** All costs from each to each, by Floyd and Warshall; what costs nothing is what comes without slip. */
    void solve() {
        codes = (int) Math.round(Math.pow(habits, people));
        states = new ArrayList<>();
        for (int s = 0; s < codes; s++) {
            if (isState(s)) {
                states.add(s);
            }
        }
        cost = new int[codes][codes];
        for (int[] row : cost) {
            Arrays.fill(row, FAR);
        }
        for (int s : states) {
            cost[s][s] = 0;
            for (int p = 0; p < people; p++) {
                for (int a = 0; a < habits && free(p); a++) {
                    int t = with(s, p, a);
                    cost[s][t] = Math.min(cost[s][t], price(s, p, a));
                }
            }
        }
        for (int k : states) {
            for (int i : states) {
                for (int j : states) {
                    cost[i][j] = Math.min(cost[i][j], cost[i][k] + cost[k][j]);
                }
            }
        }
        findRests();
    }

    private void findRests() {
        rests = new ArrayList<>();
        home = new int[codes];
        Arrays.fill(home, -1);
        for (int s : states) {
            if (home[s] >= 0) {
                continue;
            }
            boolean closed = true;
            List<Integer> set = new ArrayList<>();
            for (int t : states) {
                if (cost[s][t] == 0) {
                    set.add(t);
                    closed &= cost[t][s] == 0;
                }
            }
            if (closed) {
                for (int t : set) {
                    home[t] = rests.size();
                }
                rests.add(set);
            }
        }
    }

    boolean comes(int s, int k) {
        return cost[s][rests.get(k).get(0)] == 0;
    }

    boolean inBasin(int s, int k) {
        for (int j = 0; j < rests.size(); j++) {
            if (comes(s, j) != (j == k)) {
                return false;
            }
        }
        return true;
    }

    int basin(int k) {
        int n = 0;
        for (int s : states) {
            n += inBasin(s, k) ? 1 : 0;
        }
        return n;
    }

    int between(int a, int b) {
        int least = FAR;
        for (int s : rests.get(a)) {
            for (int t : rests.get(b)) {
                least = Math.min(least, cost[s][t]);
            }
        }
        return least;
    }

    /** The way as a row of states, by improving rows until none gets better. */
    List<Integer> way(int from, int to) {
        List<List<Integer>> best = new ArrayList<>();
        for (int s = 0; s < codes; s++) {
            best.add(null);
        }
        best.set(to, List.of(to));
        boolean better = true;
        while (better) {
            better = false;
            for (int s : states) {
                if (s == to) {
                    continue;
                }
                for (int p = 0; p < people; p++) {
                    for (int a = 0; a < habits && free(p); a++) {
                        int t = with(s, p, a);
                        if (t == s || best.get(t) == null || best.get(t).contains(s)) {
                            continue;
                        }
                        if (price(s, p, a) + cost[t][to] != cost[s][to]) {
                            continue;
                        }
                        List<Integer> row = new ArrayList<>();
                        row.add(s);
                        row.addAll(best.get(t));
                        if (best.get(s) == null || less(row, best.get(s))) {
                            best.set(s, row);
                            better = true;
                        }
                    }
                }
            }
        }
        return best.get(from);
    }

    private static boolean less(List<Integer> a, List<Integer> b) {
        if (a.size() != b.size()) {
            return a.size() < b.size();
        }
        for (int i = 0; i < a.size(); i++) {
            if (!a.get(i).equals(b.get(i))) {
                return a.get(i) < b.get(i);
            }
        }
        return false;
    }

    /** Any tree can be built by hanging one rest after the other on what stands: all sets are tried. */
    int treeSum(int root, int[] fixed) {
        int n = rests.size();
        int[][] w = new int[n][n];
        for (int a = 0; a < n; a++) {
            for (int b = 0; b < n; b++) {
                w[a][b] = fixed != null && fixed[a] >= 0 && fixed[a] != b ? FAR : between(a, b);
            }
        }
        int[] f = new int[1 << n];
        Arrays.fill(f, FAR);
        f[1 << root] = 0;
        for (int set = 0; set < 1 << n; set++) {
            for (int v = 0; v < n && f[set] < FAR; v++) {
                if ((set >> v & 1) != 0) {
                    continue;
                }
                int cheapest = FAR;
                for (int u = 0; u < n; u++) {
                    if ((set >> u & 1) != 0) {
                        cheapest = Math.min(cheapest, w[v][u]);
                    }
                }
                f[set | 1 << v] = Math.min(f[set | 1 << v], f[set] + cheapest);
            }
        }
        return f[(1 << n) - 1];
    }

    /** The least row of the trees with the least sum: with few rests by trying all rows. */
    int[] treeRow(int root) {
        int n = rests.size();
        int least = treeSum(root, null);
        int[] row = new int[n];
        Arrays.fill(row, -1);
        if (n <= 5) {
            return tryRows(root, 0, row, 0, least) ? row : null;
        }
        for (int i = 0; i < n; i++) {
            for (int j = 0; j < n && i != root; j++) {
                if (j != i) {
                    row[i] = j;
                    if (treeSum(root, row) == least) {
                        break;
                    }
                }
            }
        }
        return row;
    }

    private boolean tryRows(int root, int i, int[] row, int sum, int least) {
        if (i == rests.size()) {
            return sum == least && isTree(root, row);
        }
        if (i == root) {
            return tryRows(root, i + 1, row, sum, least);
        }
        for (int j = 0; j < rests.size(); j++) {
            if (j != i) {
                row[i] = j;
                if (tryRows(root, i + 1, row, sum + between(i, j), least)) {
                    return true;
                }
            }
        }
        row[i] = -1;
        return false;
    }

    private boolean isTree(int root, int[] row) {
        for (int i = 0; i < row.length; i++) {
            int at = i;
            for (int n = 0; n < row.length && at != root; n++) {
                at = row[at];
            }
            if (at != root) {
                return false;
            }
        }
        return true;
    }

    int winners() {
        int least = FAR;
        int bits = 0;
        for (int k = 0; k < rests.size(); k++) {
            int sum = treeSum(k, null);
            if (sum < least) {
                least = sum;
                bits = 0;
            }
            bits |= sum == least ? 1 << k : 0;
        }
        return bits;
    }

    int radius(int k) {
        int least = FAR;
        for (int s : rests.get(k)) {
            for (int t : states) {
                if (!inBasin(t, k)) {
                    least = Math.min(least, cost[s][t]);
                }
            }
        }
        return least == FAR ? -1 : least;
    }

    int coradius(int k) {
        int most = 0;
        for (int s : states) {
            int least = FAR;
            for (int t : rests.get(k)) {
                least = Math.min(least, cost[s][t]);
            }
            most = Math.max(most, least);
        }
        return most;
    }

    int shortly() {
        for (int k = 0; k < rests.size(); k++) {
            int r = radius(k);
            if (r == -1 || r > coradius(k)) {
                return k;
            }
        }
        return -1;
    }

    private int allOf(int set, int h, int g) {
        int[] have = new int[people];
        for (int p = 0; p < people; p++) {
            have[p] = free(p) ? ((set >> p & 1) != 0 ? h : g) : keeps[p];
        }
        return encode(have);
    }

    int carried(int h, int g) {
        int goal = allOf(freeBits(), h, h);
        if (home[goal] < 0 || rests.get(home[goal]).size() != 1) {
            return -1;
        }
        for (int n = 0; n <= people; n++) {
            for (int set = 0; set < 1 << people; set++) {
                boolean may = Integer.bitCount(set) == n && (set & ~freeBits()) == 0;
                if (may && inBasin(allOf(set, h, g), home[goal])) {
                    return set;
                }
            }
        }
        return -1;
    }

    private boolean allWinnersHave(int h, int set) {
        solve();
        if (rests.size() > 12) {
            return false;
        }
        int bits = winners();
        for (int k = 0; k < rests.size(); k++) {
            for (int s : rests.get(k)) {
                for (int p = 0; p < people; p++) {
                    if ((bits >> k & 1) != 0 && (set >> p & 1) != 0 && decode(s)[p] != h) {
                        return false;
                    }
                }
            }
        }
        return true;
    }

    int bound(int h) {
        for (int n = 0; n <= people; n++) {
            for (int set = 0; set < 1 << people; set++) {
                if (Integer.bitCount(set) != n || (set & ~freeBits()) != 0) {
                    continue;
                }
                NaiveValley v = copy();
                for (int p = 0; p < people; p++) {
                    if ((set >> p & 1) != 0) {
                        v.keeps[p] = h;
                    }
                }
                if (v.allWinnersHave(h, freeBits())) {
                    return set;
                }
            }
        }
        return -1;
    }

    int gift(int h) {
        for (int more = 0; more <= 99; more++) {
            NaiveValley v = copy();
            for (int j = 0; j < habits; j++) {
                v.gets[h][j] += more;
            }
            if (v.allWinnersHave(h, freeBits())) {
                return more;
            }
        }
        return -1;
    }

    long[] flow(int s, int rounds, int q) {
        long[] parts = new long[codes];
        parts[s] = 1_000_000_000L;
        int n = Integer.bitCount(freeBits());
        for (int r = 0; r < rounds && n > 0; r++) {
            long[] next = parts.clone();
            for (int t : states) {
                for (int p = 0; p < people; p++) {
                    if (free(p)) {
                        flowOne(parts, next, t, p, n, q);
                    }
                }
            }
            parts = next;
        }
        return parts;
    }

    private void flowOne(long[] parts, long[] next, int t, int p, int n, int q) {
        long x = parts[t] / n;
        long slipping = x / q;
        int bits = answers(t, p);
        for (int a = 0; a < habits; a++) {
            next[t] -= slipping / habits;
            next[with(t, p, a)] += slipping / habits;
            if ((bits >> a & 1) != 0) {
                long part = (x - slipping) / Integer.bitCount(bits);
                next[t] -= part;
                next[with(t, p, a)] += part;
            }
        }
    }

    /** The end, the slips, their cost, how many steps ended in a rest, and each person's moves. */
    int[] run(int s, int seed, int steps, int q) {
        int[] told = new int[4 + people];
        List<Integer> frees = new ArrayList<>();
        for (int p = 0; p < people; p++) {
            if (free(p)) {
                frees.add(p);
            }
        }
        long x = seed;
        int at = s;
        for (int i = 0; i < steps; i++) {
            long[] draws = new long[3];
            for (int d = 0; d < 3; d++) {
                x = (1103515245L * x + 12345L) & 0x7fffffffL;
                draws[d] = x >> 16;
            }
            int p = frees.get((int) (draws[0] % frees.size()));
            List<Integer> may = new ArrayList<>();
            for (int a = 0; a < habits; a++) {
                if ((answers(at, p) >> a & 1) != 0) {
                    may.add(a);
                }
            }
            int a = draws[1] % q == 0 ? (int) (draws[2] % habits) : may.get((int) (draws[2] % may.size()));
            if (!may.contains(a)) {
                told[1]++;
                told[2] += slip[a];
            }
            at = with(at, p, a);
            told[3] += home[at] >= 0 ? 1 : 0;
            told[4 + p]++;
        }
        told[0] = at;
        return told;
    }

    /** How many moves are well, slips, their cost, the end, whether all are well. */
    int[] judge(int s, byte[] row) {
        int[] told = new int[5];
        int at = s;
        told[4] = 1;
        for (int i = 0; i + 1 < row.length; i += 2) {
            int p = (row[i] & 255) - 48;
            int a = (row[i + 1] & 255) - 48;
            if (p < 0 || p >= people || !free(p) || a < 0 || a >= habits) {
                told[4] = 0;
                break;
            }
            told[0]++;
            if ((answers(at, p) >> a & 1) == 0) {
                told[1]++;
                told[2] += slip[a];
            }
            at = with(at, p, a);
        }
        told[3] = at;
        return told;
    }

    String text(java.util.Random r, boolean meetsTold) {
        StringBuilder b = new StringBuilder();
        if (r.nextBoolean()) {
            b.append("people ").append(people).append(";\nhabits ").append(habits).append(";");
        } else {
            b.append("habits ").append(habits).append(" ; people ").append(people).append(" ;");
        }
        for (int i = 0; i < habits; i++) {
            for (int j = 0; j < habits; j++) {
                if (gets[i][j] != (i == j ? 1 : 0) || r.nextInt(9) == 0) {
                    b.append("worth ").append(i).append(' ').append(j).append(' ').append(gets[i][j]).append(";");
                }
            }
            if (slip[i] != 1 || r.nextInt(9) == 0) {
                b.append("slip ").append(i).append(' ').append(slip[i]).append(";");
            }
        }
        boolean first = true;
        for (int p = 0; p < people && meetsTold; p++) {
            for (int q = 0; q < p; q++) {
                if (meets[p][q]) {
                    b.append(first ? "meets" : "").append(' ').append(p).append(' ').append(q);
                    first = false;
                }
            }
        }
        b.append(first ? "" : ";");
        if (answer != 0 || r.nextBoolean()) {
            b.append("answer ").append(new String[] {"best", "most", "copy"}[answer]).append(";");
        }
        b.append(stays ? "stays;" : "");
        for (int p = 0; p < people; p++) {
            if (keeps[p] >= 0) {
                b.append("keeps ").append(p).append(' ').append(keeps[p]).append(";");
            }
        }
        return b.toString();
    }
}
