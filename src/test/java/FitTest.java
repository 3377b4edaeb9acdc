import java.util.Random;

/** Promises 11, 12 and 13: size, word, compare. */
public final class FitTest {
    private static final int BAD = StructureSearch.BAD;
    private static final int[] NO_GRAPHS = {-1, Integer.MIN_VALUE, Integer.MAX_VALUE, 1, 64, 1 << 25, 2 | 32};

    public static void main(String[] args) {
        Check check = new Check();
        oneName(check);
        twoNames(check);
        refusals(check);
        changes(check);
        longest(check);
        for (int run = 0; run < 400; run++) manyFactors(check, new Random(run));
        check.end();
    }

    private static void fitIs(Check check, StructureSearch x, int graph, long above, long below) {
        check.same("11: words above of " + graph, x.size(graph, 0), 1);
        check.same("11: words below of " + graph, x.size(graph, 1), 1);
        check.same("12: above of " + graph, x.word(graph, 0, 0), above);
        check.same("12: below of " + graph, x.word(graph, 1, 0), below);
    }

    private static void oneName(Check check) {
        StructureSearch x = new StructureSearch();
        fitIs(check, x, 0, 1, 1);
        x.name(2);
        fitIs(check, x, 0, 1, 1);
        x.row(0, 0, 0, 0, 0);
        fitIs(check, x, 0, 1, 2);
        x.row(0, 0, 0, 0, 0);
        fitIs(check, x, 0, 3, 8);
        x.set(0, 2);
        fitIs(check, x, 0, 1, 3);
        x.drop(1);
        x.row(1, 0, 0, 0, 0);
        fitIs(check, x, 0, 1, 6);
        StructureSearch y = new StructureSearch();
        y.name(3);
        y.row(2, 0, 0, 0, 0);
        fitIs(check, y, 0, 1, 3);
        y.row(2, 0, 0, 0, 0);
        fitIs(check, y, 0, 2, 9);
        y.row(1, 0, 0, 0, 0);
        fitIs(check, y, 0, 2, 81);
    }

    private static void twoNames(Check check) {
        StructureSearch x = new StructureSearch();
        x.name(2);
        x.name(2);
        x.row(0, 0, 0, 0, 0);
        fitIs(check, x, 0, 1, 4);
        fitIs(check, x, 2, 1, 4);
        check.same("13: the same", x.compare(0, 2), 1);
        x.row(0, 0, 0, 0, 0);
        fitIs(check, x, 0, 9, 64);
        fitIs(check, x, 2, 5, 32);
        fitIs(check, x, 32, 5, 32);
        check.same("13: less", x.compare(0, 2), 0);
        check.same("13: greater", x.compare(2, 0), 2);
        check.same("13: as ALIKE ones are", x.compare(2, 32), 1);
        check.same("13: itself", x.compare(2, 2), 1);
        x.drop(1);
        x.row(0, 1, 0, 0, 0);
        fitIs(check, x, 0, 3, 64);
        fitIs(check, x, 2, 1, 32);
        check.same("13: greater after a change", x.compare(0, 2), 2);
        StructureSearch y = new StructureSearch();
        y.name(2);
        y.name(3);
        y.row(1, 2, 0, 0, 0);
        y.row(1, 2, 0, 0, 0);
        // Name 1 with the parent 0: q = 2, r = 3; (1 * 7) / (3 * 9); name 0 alone: (1 * 3) / (2 * 4).
        fitIs(check, y, 2, 7, 72);
        // Name 0 with the parent 1: q = 3, r = 2; (1 * 7) / (2 * 8); name 1 alone: (1 * 4) / (3 * 6).
        fitIs(check, y, 32, 7, 72);
    }

    private static void refusals(Check check) {
        StructureSearch x = new StructureSearch();
        x.name(2);
        x.name(2);
        for (int graph : NO_GRAPHS) {
            check.same("11: no graph", x.size(graph, 0), BAD);
            check.same("12: no graph", x.word(graph, 0, 0), BAD);
            check.same("13: no graph first", x.compare(graph, 0), BAD);
            check.same("13: no graph second", x.compare(0, graph), BAD);
        }
        for (int part : new int[] {-1, 2, Integer.MIN_VALUE, Integer.MAX_VALUE}) {
            check.same("11: part " + part, x.size(0, part), BAD);
            check.same("12: part " + part, x.word(0, part, 0), BAD);
        }
        for (int i : new int[] {-1, 1, Integer.MIN_VALUE, Integer.MAX_VALUE}) {
            check.same("12: no word " + i, x.word(0, 0, i), BAD);
        }
        check.same("12: a word", x.word(0, 0, 0), 1);
    }

    private static void changes(Check check) {
        StructureSearch x = new StructureSearch();
        x.name(2);
        fitIs(check, x, 0, 1, 1);
        x.name(2);
        check.same("13: no rows", x.compare(0, 2), 1);
        x.row(1, 1, 0, 0, 0);
        x.row(1, 1, 0, 0, 0);
        check.same("13: a row more", x.compare(0, 2), 0);
        x.set(1, 0);
        check.same("13: not bounded", x.compare(0, 2), 0);
        fitIs(check, x, 2, 5, 32);
        x.set(0, 9);
        // 9 * 11 / (18 * 20) twice; 9 * 11 / (18 * 20) and 9 * 13 / (18 * 22).
        fitIs(check, x, 0, 121, 1600);
        fitIs(check, x, 2, 13, 160);
        x.clear();
        fitIs(check, x, 0, 1, 1);
        check.same("11: no such graph any more", x.size(2, 0), BAD);
    }

    /** The longest numbers that there are: five names of three values, sixteen rows, arcs between all. */
    private static void longest(Check check) {
        for (int strength = 1; strength <= 9; strength++) {
            for (int spread = 0; spread < 4; spread++) {
                StructureSearch x = new StructureSearch();
                Oracle oracle = new Oracle();
                x.set(0, strength);
                oracle.set(0, strength);
                for (int i = 0; i < 5; i++) {
                    x.name(3);
                    oracle.name(3);
                }
                for (int i = 0; i < 16; i++) {
                    int a = i * spread % 3;
                    int b = i / 3 * spread % 3;
                    int c = i * i * spread % 3;
                    x.row(a, b, c, a, b);
                    oracle.row(a, b, c, a, b);
                }
                for (int graph : new int[] {0, 2 | 4 | 8 | 16 | 128 | 256 | 512 | 8192 | 16384 | 1 << 19}) {
                    same(check, x, oracle, graph);
                }
            }
        }
    }

    /** Rows that are mostly the same bring many factors, with primes of all sizes that may or may not go out. */
    private static void manyFactors(Check check, Random random) {
        StructureSearch x = new StructureSearch();
        Oracle oracle = new Oracle();
        int strength = 1 + random.nextInt(9);
        x.set(0, strength);
        oracle.set(0, strength);
        for (int i = 0; i < 5; i++) {
            int values = 2 + random.nextInt(2);
            x.name(values);
            oracle.name(values);
        }
        for (int i = 0; i < 16; i++) {
            int[] v = new int[5];
            for (int k = 0; k < 5; k++) v[k] = random.nextInt(4) == 0 ? 1 : 0;
            x.row(v[0], v[1], v[2], v[3], v[4]);
            oracle.row(v[0], v[1], v[2], v[3], v[4]);
        }
        int[] graphs = oracle.graphs();
        for (int i = 0; i < 4; i++) same(check, x, oracle, graphs[random.nextInt(graphs.length)]);
    }

    private static void same(Check check, StructureSearch x, Oracle oracle, int graph) {
        for (int part = 0; part < 2; part++) {
            int size = oracle.size(graph, part);
            check.same("11: size", x.size(graph, part), size);
            for (int i = 0; i <= size; i++) {
                check.same("12: word " + i, x.word(graph, part, i), oracle.word(graph, part, i));
            }
            check.holds("12: the highest word is not 0", x.word(graph, part, size - 1) > 0);
        }
        check.same("13: compare", x.compare(graph, 0), oracle.compare(graph, 0));
        check.same("13: compare", x.compare(0, graph), oracle.compare(0, graph));
        check.same("13: compare", x.compare(1 << 23, graph), oracle.compare(1 << 23, graph));
    }
}
