import java.util.ArrayDeque;
import java.util.ArrayList;
import java.util.Arrays;
import java.util.Deque;
import java.util.List;
import java.util.TreeSet;

/**
 * The document once more, told another way: nothing is kept that can be found anew, sums go over
 * all WAYS one by one, faults are those that the machine throws. Only for tests.
 */
final class PlainModel {
    /** Up to here sums are taken over all WAYS, above with THE TREE at 0. */
    private static final long ALL_WAYS = 70000;

    private int[][] table = {{0}};
    private int[] worths = {1};
    private int points;
    private final List<int[]> lines = new ArrayList<>();
    private List<Integer> turns = new ArrayList<>();
    private final List<Route> walks = new ArrayList<>();
    private final Deque<List<Integer>> acts = new ArrayDeque<>();
    private final Object[] sheets = new Object[4];

    private static final class Route {
        final List<Integer> stops = new ArrayList<>();
        final List<Integer> lines = new ArrayList<>();
        final List<Boolean> backs = new ArrayList<>();
        boolean counts = true;

        int end() {
            return stops.get(stops.size() - 1);
        }

        boolean closed() {
            return !lines.isEmpty() && stops.get(0) == end();
        }
    }

    // ---- the group

    int group(int kind, int n) {
        if (kind == 0 && n >= 1 && n <= 8) {
            int[][] ring = new int[n][n];
            for (int a = 0; a < n; a++) {
                for (int b = 0; b < n; b++) {
                    ring[a][b] = (a + b) % n;
                }
            }
            return become(ring);
        }
        if (kind == 1 && (n == 3 || n == 4)) {
            return become(flips(n));
        }
        return kind == 2 && n == 8 ? become(crossed()) : -1;
    }

    /** As what is done to a number x modulo n: a or n + a makes it x + a or -(x + a). */
    private static int[][] flips(int n) {
        int[][] found = new int[2 * n][2 * n];
        for (int a = 0; a < 2 * n; a++) {
            for (int b = 0; b < 2 * n; b++) {
                for (int c = 0; c < 2 * n; c++) {
                    boolean same = true;
                    for (int x = 0; x < n; x++) {
                        same &= flipped(flipped(x, a, n), b, n) == flipped(x, c, n);
                    }
                    if (same) {
                        found[a][b] = c;
                    }
                }
            }
        }
        return found;
    }

    private static int flipped(int x, int a, int n) {
        return a < n ? (x + a) % n : (2 * n - x - (a - n)) % n;
    }

    private static int[][] crossed() {
        int[][] found = new int[8][8];
        for (int a = 0; a < 8; a++) {
            for (int b = 0; b < 8; b++) {
                int[] p = unit(a);
                int[] q = unit(b);
                int[] product = {
                    p[0] * q[0] - p[1] * q[1] - p[2] * q[2] - p[3] * q[3],
                    p[0] * q[1] + p[1] * q[0] + p[2] * q[3] - p[3] * q[2],
                    p[0] * q[2] - p[1] * q[3] + p[2] * q[0] + p[3] * q[1],
                    p[0] * q[3] + p[1] * q[2] - p[2] * q[1] + p[3] * q[0]};
                for (int c = 0; c < 8; c++) {
                    if (Arrays.equals(product, unit(c))) {
                        found[a][b] = c;
                    }
                }
            }
        }
        return found;
    }

    private static int[] unit(int a) {
        int[] parts = new int[4];
        parts[a % 4] = a < 4 ? 1 : -1;
        return parts;
    }

    private int become(int[][] newTable) {
        table = newTable;
        worths = new int[table.length];
        Arrays.fill(worths, 1);
        turns = new ArrayList<>();
        for (int i = 0; i < lines.size(); i++) {
            turns.add(0);
        }
        acts.clear();
        return table.length;
    }

    int read(int k, int lane, int f, int n) {
        if (k < 0 || k > 3 || lane < 0 || lane > 2 || n < 1 || n > 8) {
            return -1;
        }
        int[][] found = new int[n][n];
        try {
            touch(k, lane);
            for (int i = 0; i < n * n; i++) {
                int v = cell(k, lane, f, i);
                if (v < 0 || v >= n) {
                    return -100 - i;
                }
                found[i / n][i % n] = v;
            }
        } catch (RuntimeException e) {
            return faultOf(e);
        }
        int fault = groupFault(found, n);
        return fault == 0 ? become(found) : fault;
    }

    private static int groupFault(int[][] t, int n) {
        for (int a = 0; a < n; a++) {
            if (t[0][a] != a || t[a][0] != a) {
                return -200 - a;
            }
        }
        for (int a = 0; a < n; a++) {
            boolean back = false;
            for (int b = 0; b < n; b++) {
                back |= t[a][b] == 0 && t[b][a] == 0;
            }
            if (!back) {
                return -300 - a;
            }
        }
        for (int abc = 0; abc < 512; abc++) {
            int a = abc / 64;
            int b = abc / 8 % 8;
            int c = abc % 8;
            if (a < n && b < n && c < n && t[t[a][b]][c] != t[a][t[b][c]]) {
                return -1000 - abc;
            }
        }
        return 0;
    }

    private boolean isTurn(int a) {
        return a >= 0 && a < table.length;
    }

    int times(int a, int b) {
        return isTurn(a) && isTurn(b) ? table[a][b] : -1;
    }

    private int back(int a) {
        int b = 0;
        while (table[a][b] != 0) {
            b++;
        }
        return b;
    }

    private TreeSet<Integer> classOf(int a) {
        TreeSet<Integer> found = new TreeSet<>();
        for (int g = 0; g < table.length; g++) {
            found.add(table[table[g][a]][back(g)]);
        }
        return found;
    }

    private int alike(int a) {
        int found = 0;
        for (int b = 0; b < table.length; b++) {
            found += table[a][b] == table[b][a] ? 1 : 0;
        }
        return found;
    }

    int turn(int a, int what) {
        if (!isTurn(a) || what < 0 || what > 5) {
            return -1;
        }
        if (what == 1) {
            int often = 1;
            for (int x = a; x != 0; x = table[x][a]) {
                often++;
            }
            return often;
        }
        return new int[] {back(a), 0, classOf(a).first(), classOf(a).size(), worths[a],
            alike(a)}[what];
    }

    int about(int what) {
        int n = table.length;
        TreeSet<Integer> leasts = new TreeSet<>();
        int central = 0;
        int pairs = 0;
        for (int a = 0; a < n; a++) {
            leasts.add(classOf(a).first());
            central += alike(a) == n ? 1 : 0;
            pairs += alike(a);
        }
        int[] all = {n, leasts.size(), central, pairs, pairs == n * n ? 1 : 0};
        return what < 0 || what >= all.length ? -1 : all[what];
    }

    int worth(int a, int v) {
        if (!isTurn(a) || v < 0 || v > 9) {
            return -1;
        }
        int was = worths[a];
        for (int b : classOf(a)) {
            worths[b] = v;
        }
        return was;
    }

    // ---- the board

    int point() {
        return points == 6 ? -3 : points++;
    }

    private boolean isPoint(int p) {
        return p >= 0 && p < points;
    }

    int line(int from, int to) {
        if (!isPoint(from) || !isPoint(to)) {
            return -1;
        }
        if (lines.size() == 10) {
            return -3;
        }
        lines.add(new int[] {from, to});
        turns.add(0);
        return lines.size() - 1;
    }

    private boolean isLine(int line) {
        return line >= 0 && line < lines.size();
    }

    int walk(int p) {
        if (!isPoint(p)) {
            return -1;
        }
        if (walks.size() == 8) {
            return -3;
        }
        Route route = new Route();
        route.stops.add(p);
        walks.add(route);
        return walks.size() - 1;
    }

    private boolean isWalk(int w) {
        return w >= 0 && w < walks.size();
    }

    int step(int w, int line, boolean back) {
        if (!isWalk(w) || !isLine(line)) {
            return -1;
        }
        Route route = walks.get(w);
        int[] ends = lines.get(line);
        if (ends[back ? 1 : 0] != route.end()) {
            return -2;
        }
        if (route.lines.size() == 6) {
            return -3;
        }
        route.lines.add(line);
        route.backs.add(back);
        route.stops.add(ends[back ? 0 : 1]);
        return route.lines.size();
    }

    int counts(int w, boolean is) {
        if (!isWalk(w)) {
            return -1;
        }
        int was = walks.get(w).counts ? 1 : 0;
        walks.get(w).counts = is;
        return was;
    }

    int told(int w, int what) {
        if (!isWalk(w) || what < 0 || what > 4) {
            return -1;
        }
        Route route = walks.get(w);
        return new int[] {route.lines.size(), route.end(), route.closed() ? 1 : 0,
            around(route, turns), route.counts ? 1 : 0}[what];
    }

    private int around(Route route, List<Integer> with) {
        int whole = 0;
        for (int s = 0; s < route.lines.size(); s++) {
            int x = with.get(route.lines.get(s));
            whole = table[whole][route.backs.get(s) ? back(x) : x];
        }
        return whole;
    }

    int drop() {
        if (walks.isEmpty()) {
            return -4;
        }
        walks.remove(walks.size() - 1);
        return walks.size();
    }

    private void act() {
        acts.addLast(new ArrayList<>(turns));
        if (acts.size() > 8) {
            acts.removeFirst();
        }
    }

    int set(int line, int a) {
        if (!isLine(line) || !isTurn(a)) {
            return -1;
        }
        act();
        return turns.set(line, a);
    }

    int at(int line) {
        return isLine(line) ? turns.get(line) : -1;
    }

    private long weightOf(List<Integer> with) {
        long product = 1;
        for (Route route : walks) {
            if (route.closed() && route.counts) {
                product *= worths[around(route, with)];
            }
        }
        return product;
    }

    long weight() {
        return weightOf(turns);
    }

    private void turnPoint(int p, int g) {
        for (int i = 0; i < lines.size(); i++) {
            if (lines.get(i)[0] == p) {
                turns.set(i, table[g][turns.get(i)]);
            }
        }
        for (int i = 0; i < lines.size(); i++) {
            if (lines.get(i)[1] == p) {
                turns.set(i, table[turns.get(i)][back(g)]);
            }
        }
    }

    private int unlike(List<Integer> was) {
        int found = 0;
        for (int i = 0; i < turns.size(); i++) {
            found += turns.get(i).equals(was.get(i)) ? 0 : 1;
        }
        return found;
    }

    int twist(int p, int a) {
        if (!isPoint(p) || !isTurn(a)) {
            return -1;
        }
        act();
        turnPoint(p, a);
        return unlike(acts.getLast());
    }

    /** Of the POINTS the least ones that they hang together with, by the first LINES alone. */
    private int[] hanging(int firstLines) {
        int[] least = new int[points];
        for (int p = 0; p < points; p++) {
            least[p] = p;
        }
        for (int round = 0; round < points; round++) {
            for (int i = 0; i < firstLines; i++) {
                int[] ends = lines.get(i);
                int both = Math.min(least[ends[0]], least[ends[1]]);
                least[ends[0]] = both;
                least[ends[1]] = both;
            }
        }
        return least;
    }

    private boolean inTree(int line) {
        int[] least = hanging(line);
        return least[lines.get(line)[0]] != least[lines.get(line)[1]];
    }

    private int treeLines() {
        int found = 0;
        for (int i = 0; i < lines.size(); i++) {
            found += inTree(i) ? 1 : 0;
        }
        return found;
    }

    int still() {
        act();
        int[] least = hanging(lines.size());
        TreeSet<Integer> settled = new TreeSet<>();
        for (int p = 0; p < points; p++) {
            if (least[p] == p) {
                settled.add(p);
            }
        }
        for (int round = 0; round < points; round++) {
            for (int i = 0; i < lines.size(); i++) {
                int[] ends = lines.get(i);
                if (inTree(i) && settled.contains(ends[0]) != settled.contains(ends[1])) {
                    int p = settled.contains(ends[0]) ? ends[1] : ends[0];
                    turnUntilStill(p, i);
                    settled.add(p);
                }
            }
        }
        return unlike(acts.getLast());
    }

    private void turnUntilStill(int p, int line) {
        List<Integer> before = new ArrayList<>(turns);
        for (int g = 0; g < table.length; g++) {
            turns = new ArrayList<>(before);
            turnPoint(p, g);
            if (turns.get(line) == 0) {
                return;
            }
        }
    }

    int undo() {
        if (acts.isEmpty()) {
            return -4;
        }
        List<Integer> was = acts.removeLast();
        for (int i = 0; i < was.size(); i++) {
            turns.set(i, was.get(i));
        }
        return acts.size();
    }

    int tree(int line) {
        if (!isLine(line)) {
            return -1;
        }
        return inTree(line) ? 1 : 0;
    }

    // ---- sums

    private boolean spent() {
        return power(lines.size() - treeLines()) > 40000;
    }

    private long power(int often) {
        long found = 1;
        for (int i = 0; i < often; i++) {
            found *= table.length;
        }
        return found;
    }

    /** What is asked: 0 SUM, 1 SUM by the WALK and the TURN, 2 STILL. */
    private long sumOver(int asked, int w, int a) {
        boolean all = power(lines.size()) <= ALL_WAYS;
        List<Integer> free = new ArrayList<>();
        for (int i = 0; i < lines.size(); i++) {
            if (all || !inTree(i)) {
                free.add(i);
            }
        }
        List<Integer> way = new ArrayList<>();
        for (int i = 0; i < lines.size(); i++) {
            way.add(0);
        }
        TreeSet<Integer> wanted = asked == 1 ? classOf(a) : null;
        long sum = 0;
        for (long number = 0; number < power(free.size()); number++) {
            long rest = number;
            for (int i : free) {
                way.set(i, (int) (rest % table.length));
                rest /= table.length;
            }
            if (asked == 2) {
                sum += allStill(way) ? 1 : 0;
            } else if (asked == 0 || wanted.contains(around(walks.get(w), way))) {
                sum += weightOf(way);
            }
        }
        return all ? sum : sum * power(treeLines());
    }

    private boolean allStill(List<Integer> way) {
        for (Route route : walks) {
            if (route.closed() && route.counts && around(route, way) != 0) {
                return false;
            }
        }
        return true;
    }

    long sum() {
        return spent() ? -6 : sumOver(0, 0, 0);
    }

    long sumBy(int w, int a) {
        if (!isWalk(w) || !isTurn(a) || !walks.get(w).closed()) {
            return -1;
        }
        return spent() ? -6 : sumOver(1, w, a);
    }

    long mean(int w, int a, int what) {
        long part = sumBy(w, a);
        if (part == -1 || what < 0 || what > 1) {
            return -1;
        }
        if (part == -6) {
            return -6;
        }
        long whole = sum();
        if (whole == 0) {
            return -2;
        }
        long shared = java.math.BigInteger.valueOf(part)
            .gcd(java.math.BigInteger.valueOf(whole)).longValueExact();
        return (what == 0 ? part : whole) / shared;
    }

    long flat() {
        return spent() ? -6 : sumOver(2, 0, 0);
    }

    // ---- sheets

    private static int faultOf(RuntimeException e) {
        if (e instanceof NullPointerException) {
            return -11;
        }
        if (e instanceof ArrayIndexOutOfBoundsException) {
            return -12;
        }
        if (e instanceof ClassCastException) {
            return -13;
        }
        if (e instanceof NegativeArraySizeException) {
            return -14;
        }
        throw e;
    }

    private int touch(int k, int lane) {
        sheets[k].hashCode();
        return lane == 0 ? ((byte[]) sheets[k]).length
            : lane == 1 ? ((short[]) sheets[k]).length : ((int[]) sheets[k]).length;
    }

    private int cell(int k, int lane, int f, int i) {
        return lane == 0 ? ((byte[]) sheets[k])[f + i]
            : lane == 1 ? ((short[]) sheets[k])[f + i] : ((int[]) sheets[k])[f + i];
    }

    int sheet(int k, int lane, int n) {
        if (k < 0 || k > 3 || lane < 0 || lane > 2 || n > 64) {
            return -1;
        }
        try {
            sheets[k] = lane == 0 ? new byte[n] : lane == 1 ? new short[n] : new int[n];
            return 1;
        } catch (NegativeArraySizeException e) {
            return faultOf(e);
        }
    }

    int lay(int k, int i, int v) {
        if (k < 0 || k > 3) {
            return -1;
        }
        try {
            if (sheets[k] instanceof byte[] bytes) {
                bytes[i] = (byte) v;
            } else if (sheets[k] instanceof short[] shorts) {
                shorts[i] = (short) v;
            } else {
                ((int[]) sheets[k])[i] = v;
            }
            return 1;
        } catch (RuntimeException e) {
            return faultOf(e);
        }
    }

    int fill(int k, int lane, int f) {
        if (k < 0 || k > 3 || lane < 0 || lane > 2) {
            return -1;
        }
        List<Integer> found = new ArrayList<>();
        try {
            touch(k, lane);
            for (int i = 0; i < lines.size(); i++) {
                found.add(cell(k, lane, f, i));
                if (!isTurn(found.get(i))) {
                    return -20 - i;
                }
            }
        } catch (RuntimeException e) {
            return faultOf(e);
        }
        int changed = 0;
        for (int i = 0; i < lines.size(); i++) {
            if (!found.get(i).equals(turns.get(i))) {
                set(i, found.get(i));
                changed++;
            }
        }
        return changed;
    }

    int many(int what) {
        int closed = 0;
        for (Route route : walks) {
            closed += route.closed() && route.counts ? 1 : 0;
        }
        int cells = sheets[0] == null ? -4 : java.lang.reflect.Array.getLength(sheets[0]);
        TreeSet<Integer> parts = new TreeSet<>();
        for (int least : hanging(lines.size())) {
            parts.add(least);
        }
        int[] all = {points, lines.size(), walks.size(), closed, parts.size(), treeLines(),
            acts.size(), cells};
        return what < 0 || what >= all.length ? -1 : all[what];
    }
}
