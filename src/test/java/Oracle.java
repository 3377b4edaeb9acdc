import java.math.BigInteger;
import java.util.ArrayList;
import java.util.Arrays;
import java.util.HashMap;
import java.util.List;
import java.util.Map;

/**
 * The document once more, as plainly as it can be said: all graphs are gone through, all ways are counted, and numbers
 * have no bound. Nothing here is shared with the program.
 */
final class Oracle {
    static final int BAD = -1, STATE = -2, FULL = -3;

    private static final Map<Integer, int[]> GRAPHS = new HashMap<>();

    private final List<Integer> names = new ArrayList<>();
    private final List<int[]> rows = new ArrayList<>();
    private final Map<Integer, BigInteger[]> fits = new HashMap<>();
    private int strength = 1;
    private int most = 4;

    int clear() {
        int before = rows.size();
        names.clear();
        rows.clear();
        fits.clear();
        strength = 1;
        most = 4;
        return before;
    }

    int name(int values) {
        if (values < 2 || values > 3) return BAD;
        if (!rows.isEmpty()) return STATE;
        if (names.size() == 5) return FULL;
        fits.clear();
        names.add(values);
        return names.size() - 1;
    }

    int row(int a, int b, int c, int d, int e) {
        int[] given = {a, b, c, d, e};
        int[] row = new int[names.size()];
        for (int i = 0; i < row.length; i++) {
            if (given[i] < 0 || given[i] >= names.get(i)) return BAD;
            row[i] = given[i];
        }
        if (names.isEmpty()) return STATE;
        if (rows.size() == 16) return FULL;
        fits.clear();
        rows.add(row);
        return rows.size() - 1;
    }

    int drop(int row) {
        if (row < 0 || row >= rows.size()) return BAD;
        fits.clear();
        rows.remove(row);
        return rows.size();
    }

    int value(int row, int name) {
        if (row < 0 || row >= rows.size() || noName(name)) return BAD;
        return rows.get(row)[name];
    }

    int set(int what, int v) {
        int before;
        if (what == 0 && v >= 1 && v <= 9) {
            before = strength;
            strength = v;
            fits.clear();
            return before;
        }
        if (what == 1 && v >= 0 && v <= 4) {
            before = most;
            most = v;
            return before;
        }
        return BAD;
    }

    int about(int what) {
        if (what == 0) return names.size();
        if (what == 1) return rows.size();
        if (what == 2) return strength;
        if (what == 3) return most;
        if (what < 4 || what - 4 >= names.size()) return BAD;
        return names.get(what - 4);
    }

    boolean isGraph(int graph) {
        return Arrays.binarySearch(graphs(), graph) >= 0;
    }

    int order(int graph, int i) {
        if (!isGraph(graph) || i < 0 || i >= names.size()) return BAD;
        List<Integer> came = new ArrayList<>();
        while (came.size() <= i) {
            int next = 0;
            while (came.contains(next) || !cameAll(came, graph, next)) next++;
            came.add(next);
        }
        return came.get(i);
    }

    private boolean cameAll(List<Integer> came, int graph, int name) {
        for (int p = 0; p < names.size(); p++) if (arc(graph, p, name) && !came.contains(p)) return false;
        return true;
    }

    int size(int graph, int part) {
        if (!isGraph(graph) || part < 0 || part > 1) return BAD;
        return words(fitOfGraph(graph)[part]);
    }

    long word(int graph, int part, int i) {
        if (!isGraph(graph) || part < 0 || part > 1) return BAD;
        return word(fitOfGraph(graph)[part], i);
    }

    int compare(int graph, int other) {
        if (!isGraph(graph) || !isGraph(other)) return BAD;
        return compare(fitOfGraph(graph), fitOfGraph(other)) + 1;
    }

    int parents(int name, int of) {
        if (noName(name) || of < 0 || of >= 1 << names.size() || (of >> name & 1) == 1) return BAD;
        int best = -1;
        for (int set = 0; set < 32; set++) {
            if ((set | of) != of || Integer.bitCount(set) > most) continue;
            if (best < 0 || compare(fit(name, set), fit(name, best)) > 0) best = set;
        }
        return best;
    }

    int best() {
        int best = -1;
        BigInteger high = null;
        BigInteger[][] scaled = scaledFits();
        for (int g : graphs()) {
            if (!bounded(g)) continue;
            BigInteger fit = product(scaled, g);
            if (high == null || fit.compareTo(high) > 0) {
                best = g;
                high = fit;
            }
        }
        return best;
    }

    int climb(int graph, int steps) {
        if (!isGraph(graph) || !bounded(graph) || steps < 0 || steps > 30) return BAD;
        BigInteger[][] scaled = scaledFits();
        int here = graph;
        for (int i = 0; i < steps; i++) {
            int next = -1;
            for (int g : graphs()) {
                if (!bounded(g) || !oneStep(here, g)) continue;
                if (next < 0 || product(scaled, g).compareTo(product(scaled, next)) > 0) next = g;
            }
            if (next < 0 || product(scaled, next).compareTo(product(scaled, here)) <= 0) return here;
            here = next;
        }
        return here;
    }

    private static boolean oneStep(int graph, int other) {
        int changed = graph ^ other;
        if (Integer.bitCount(changed) == 1) return true;
        for (int a = 0; a < 5; a++) {
            for (int b = 0; b < 5; b++) {
                boolean turned = arc(graph, a, b) && arc(other, b, a);
                if (turned && changed == (1 << 5 * a + b | 1 << 5 * b + a)) return true;
            }
        }
        return false;
    }

    int alike(int graph, int other) {
        if (!isGraph(graph) || !isGraph(other)) return BAD;
        return areAlike(graph, other) ? 1 : 0;
    }

    int kin(int graph, int what) {
        if (!isGraph(graph) || what < 0 || what > 3) return BAD;
        int count = 0;
        int least = Integer.MAX_VALUE;
        int greatest = 0;
        int common = -1;
        for (int g : graphs()) {
            if (!areAlike(g, graph)) continue;
            count++;
            least = Math.min(least, g);
            greatest = Math.max(greatest, g);
            common &= g;
        }
        return new int[] {count, least, greatest, common}[what];
    }

    int shareSize(int from, int to, int part) {
        if (noName(from) || noName(to) || from == to || part < 0 || part > 1) return BAD;
        if (names.size() == 5) return STATE;
        return words(share(from, to)[part]);
    }

    long shareWord(int from, int to, int part, int i) {
        if (noName(from) || noName(to) || from == to || part < 0 || part > 1) return BAD;
        if (names.size() == 5) return STATE;
        return word(share(from, to)[part], i);
    }

    long test(int a, int b, int c, int v, int part) {
        if (noName(a) || noName(b) || a == b || part < 0 || part > 1) return BAD;
        if (c != -1 && (noName(c) || c == a || c == b || v < 0 || v >= names.get(c))) return BAD;
        Map<String, Long> ways = new HashMap<>();
        ways.put("000000000", 1L);
        char[] here = "000000000".toCharArray();
        int[] often = new int[3];
        for (int[] row : rows) {
            if (c != -1 && row[c] != v) continue;
            here[3 * row[a] + row[b]]++;
            often[row[b]]++;
            Map<String, Long> longer = new HashMap<>();
            for (Map.Entry<String, Long> e : ways.entrySet()) {
                for (int k = 0; k < 3; k++) {
                    char[] table = e.getKey().toCharArray();
                    table[3 * row[a] + k]++;
                    longer.merge(new String(table), e.getValue(), Long::sum);
                }
            }
            ways = longer;
        }
        long limit = ways.get(new String(here));
        long some = 0;
        long all = 0;
        for (Map.Entry<String, Long> e : ways.entrySet()) {
            String t = e.getKey();
            boolean due = true;
            for (int k = 0; k < 3; k++) due &= t.charAt(k) + t.charAt(3 + k) + t.charAt(6 + k) - 3 * '0' == often[k];
            if (!due) continue;
            all += e.getValue();
            if (e.getValue() <= limit) some += e.getValue();
        }
        return part == 0 ? some : all;
    }

    private boolean noName(int name) {
        return name < 0 || name >= names.size();
    }

    private static boolean arc(int graph, int from, int to) {
        return (graph >> 5 * from + to & 1) == 1;
    }

    private static int parentsOf(int graph, int name) {
        int set = 0;
        for (int p = 0; p < 5; p++) if (arc(graph, p, name)) set += 1 << p;
        return set;
    }

    private boolean bounded(int graph) {
        for (int c = 0; c < 5; c++) if (Integer.bitCount(parentsOf(graph, c)) > most) return false;
        return true;
    }

    private static boolean areAlike(int graph, int other) {
        for (int a = 0; a < 5; a++) {
            for (int b = 0; b < 5; b++) {
                if (tied(graph, a, b) != tied(other, a, b)) return false;
                for (int c = 0; c < 5; c++) if (meets(graph, a, b, c) != meets(other, a, b, c)) return false;
            }
        }
        return true;
    }

    private static boolean tied(int graph, int a, int b) {
        return arc(graph, a, b) || arc(graph, b, a);
    }

    private static boolean meets(int graph, int a, int b, int c) {
        return a != b && arc(graph, a, c) && arc(graph, b, c) && !tied(graph, a, b);
    }

    /** All graphs of so many names, the least number first. */
    int[] graphs() {
        return GRAPHS.computeIfAbsent(names.size(), Oracle::allGraphs);
    }

    private static int[] allGraphs(int names) {
        List<Integer> places = new ArrayList<>();
        for (int p = 0; p < names; p++) {
            for (int c = 0; c < names; c++) if (p != c) places.add(5 * p + c);
        }
        List<Integer> found = new ArrayList<>();
        for (int bits = 0; bits < 1 << places.size(); bits++) {
            int graph = 0;
            for (int i = 0; i < places.size(); i++) if ((bits >> i & 1) == 1) graph |= 1 << places.get(i);
            if (!comesBack(graph)) found.add(graph);
        }
        return found.stream().mapToInt(Integer::intValue).sorted().toArray();
    }

    private static boolean comesBack(int graph) {
        int[] reach = new int[5];
        for (int p = 0; p < 5; p++) reach[p] = graph >> 5 * p & 31;
        for (int round = 0; round < 5; round++) {
            for (int p = 0; p < 5; p++) {
                for (int c = 0; c < 5; c++) if ((reach[p] >> c & 1) == 1) reach[p] |= reach[c];
            }
        }
        for (int p = 0; p < 5; p++) if ((reach[p] >> p & 1) == 1) return true;
        return false;
    }

    private BigInteger[] fit(int name, int set) {
        return fits.computeIfAbsent(32 * name + set, key -> reckonFit(name, set));
    }

    private BigInteger[] reckonFit(int name, int set) {
        int r = names.get(name);
        int q = 1;
        for (int p = 0; p < names.size(); p++) if ((set >> p & 1) == 1) q *= names.get(p);
        BigInteger above = BigInteger.ONE;
        BigInteger below = BigInteger.ONE;
        for (int way = 0; way < q; way++) {
            int n = 0;
            int[] nk = new int[r];
            for (int[] row : rows) {
                if (wayOf(row, set) != way) continue;
                n++;
                nk[row[name]]++;
            }
            for (int k = 0; k < r; k++) {
                for (int j = 0; j < nk[k]; j++) above = above.multiply(BigInteger.valueOf(strength + j * q * r));
            }
            for (int j = 0; j < n; j++) below = below.multiply(BigInteger.valueOf(r * strength + j * q * r));
        }
        return new BigInteger[] {above, below};
    }

    private int wayOf(int[] row, int set) {
        int way = 0;
        for (int p = 0; p < row.length; p++) if ((set >> p & 1) == 1) way = way * names.get(p) + row[p];
        return way;
    }

    private BigInteger[] fitOfGraph(int graph) {
        BigInteger[] all = {BigInteger.ONE, BigInteger.ONE};
        for (int c = 0; c < names.size(); c++) {
            BigInteger[] fit = fit(c, parentsOf(graph, c));
            all[0] = all[0].multiply(fit[0]);
            all[1] = all[1].multiply(fit[1]);
        }
        return least(all[0], all[1]);
    }

    private static BigInteger[] least(BigInteger above, BigInteger below) {
        BigInteger g = above.gcd(below);
        return new BigInteger[] {above.divide(g), below.divide(g)};
    }

    private static int compare(BigInteger[] a, BigInteger[] b) {
        return a[0].multiply(b[1]).compareTo(b[0].multiply(a[1]));
    }

    /** For each name all fits times the same number, so that they are whole. */
    private BigInteger[][] scaledFits() {
        BigInteger[][] scaled = new BigInteger[names.size()][32];
        for (int c = 0; c < names.size(); c++) {
            BigInteger scale = BigInteger.ONE;
            for (int set = 0; set < 1 << names.size(); set++) {
                if ((set >> c & 1) == 1) continue;
                BigInteger below = fit(c, set)[1];
                scale = scale.divide(scale.gcd(below)).multiply(below);
            }
            for (int set = 0; set < 1 << names.size(); set++) {
                if ((set >> c & 1) == 1) continue;
                scaled[c][set] = fit(c, set)[0].multiply(scale).divide(fit(c, set)[1]);
            }
        }
        return scaled;
    }

    private BigInteger product(BigInteger[][] scaled, int graph) {
        BigInteger product = BigInteger.ONE;
        for (int c = 0; c < scaled.length; c++) product = product.multiply(scaled[c][parentsOf(graph, c)]);
        return product;
    }

    private BigInteger[] share(int from, int to) {
        BigInteger[][] scaled = scaledFits();
        BigInteger some = BigInteger.ZERO;
        BigInteger all = BigInteger.ZERO;
        for (int g : graphs()) {
            if (!bounded(g)) continue;
            BigInteger fit = product(scaled, g);
            all = all.add(fit);
            if (arc(g, from, to)) some = some.add(fit);
        }
        return least(some, all);
    }

    private static int words(BigInteger number) {
        return (number.bitLength() + 31) / 32;
    }

    private static long word(BigInteger number, int i) {
        if (i < 0 || i >= words(number)) return BAD;
        return number.shiftRight(32 * i).longValue() & 0xFFFFFFFFL;
    }
}
