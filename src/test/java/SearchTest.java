import java.util.Random;

/** Promises 14, 15 and 16: parents, best, climb. */
public final class SearchTest {
    private static final int BAD = StructureSearch.BAD;

    public static void main(String[] args) {
        Check check = new Check();
        withoutRows(check);
        ties(check);
        refusals(check);
        steps(check);
        for (int names = 1; names <= 5; names++) againstOracle(check, names);
        check.end();
    }

    private static StructureSearch withNames(int names) {
        StructureSearch x = new StructureSearch();
        for (int i = 0; i < names; i++) x.name(2);
        return x;
    }

    /** All fits are 1 then, so that the least number is due. */
    private static void withoutRows(Check check) {
        check.same("15: no names", withNames(0).best(), 0);
        check.same("16: no names", withNames(0).climb(0, 30), 0);
        check.same("16: one name", withNames(1).climb(0, 30), 0);
        StructureSearch x = withNames(5);
        check.same("14: no rows", x.parents(0, 30), 0);
        check.same("15: no rows", x.best(), 0);
        check.same("16: no step is better", x.climb(2 | 4 | 8 | 16, 30), 2 | 4 | 8 | 16);
    }

    private static void ties(Check check) {
        StructureSearch x = withNames(3);
        for (int i = 0; i < 8; i++) x.row(i % 2, i % 2, i % 2, 0, 0);
        // The more parents, the greater q, and the nearer to 1 is what a row like those before it brings.
        check.same("14: both", x.parents(0, 6), 6);
        // Names 1 and 2 tell the same of name 0: of the sets {1} and {2} the least number is due.
        x.set(1, 1);
        check.same("14: of two the least", x.parents(0, 6), 2);
        check.same("14: out of the other one", x.parents(0, 4), 4);
        check.same("14: out of none", x.parents(0, 0), 0);
        check.same("14: name 2", x.parents(2, 3), 1);
        x.set(1, 0);
        check.same("14: none is allowed", x.parents(0, 6), 0);
        check.same("15: none is allowed", x.best(), 0);
        check.same("16: none such is there", x.climb(0, 30), 0);
        x.set(1, 1);
        // Of the trees of three names, all alike in fit, 0 to 1 and 0 to 2 have the least number.
        check.same("15: of several the least", x.best(), 2 | 4);
        check.same("16: two steps", x.climb(0, 30), 2 | 4);
        check.same("16: one step", x.climb(0, 1), 2);
        check.same("16: no step", x.climb(0, 0), 0);
        check.same("16: from another one", x.climb(32, 1), 32 | 4);
    }

    private static void refusals(Check check) {
        StructureSearch x = withNames(3);
        for (int i = 0; i < 6; i++) x.row(i % 2, i % 2, i % 2, 0, 0);
        for (int name : new int[] {-1, 3, 5, Integer.MIN_VALUE, Integer.MAX_VALUE}) {
            check.same("14: name " + name, x.parents(name, 0), BAD);
        }
        for (int of : new int[] {-1, 8, 9, 32, Integer.MIN_VALUE, Integer.MAX_VALUE}) {
            check.same("14: set " + of, x.parents(0, of), BAD);
        }
        check.same("14: it has the name", x.parents(1, 2), BAD);
        check.same("14: it has the name", x.parents(1, 7), BAD);
        check.same("14: no names", withNames(0).parents(0, 0), BAD);
        for (int graph : new int[] {-1, 1, 8, 2 | 32, 1 << 25, Integer.MIN_VALUE, Integer.MAX_VALUE}) {
            check.same("16: no graph " + graph, x.climb(graph, 1), BAD);
        }
        for (int steps : new int[] {-1, 31, Integer.MIN_VALUE, Integer.MAX_VALUE}) {
            check.same("16: steps " + steps, x.climb(0, steps), BAD);
        }
        x.set(1, 1);
        int two = 1 << 2 | 1 << 7;
        check.same("16: not bounded", x.climb(two, 0), BAD);
        check.same("16: not bounded", x.climb(two, 5), BAD);
        x.set(1, 2);
        check.same("16: bounded", x.climb(two, 0), two);
        x.set(1, 0);
        check.same("16: an arc is not bounded", x.climb(2, 0), BAD);
    }

    /** All thirty steps may be asked for, and a walk of n steps is n walks of one step. */
    private static void steps(Check check) {
        Random random = new Random(16);
        for (int run = 0; run < 20; run++) {
            StructureSearch x = withNames(5);
            for (int i = 0; i < 16; i++) {
                int v = random.nextInt(2);
                x.row(v, random.nextInt(4) > 0 ? v : 1 - v, random.nextInt(2), v, random.nextInt(3) / 2);
            }
            int here = 1 << 4 | 1 << 9 | 1 << 14 | 1 << 19;
            for (int steps = 0; steps <= 30; steps++) {
                check.same("16: steps " + steps, x.climb(1 << 4 | 1 << 9 | 1 << 14 | 1 << 19, steps), here);
                int next = x.climb(here, 1);
                check.same("16: better or the same one", x.compare(next, here), next == here ? 1 : 2);
                here = next;
            }
        }
    }

    private static void againstOracle(Check check, int names) {
        for (int run = 0; run < 12; run++) {
            for (int most = 0; most <= 4; most++) againstOracle(check, names, run, most);
        }
    }

    private static void againstOracle(Check check, int names, int run, int most) {
        Random random = new Random(100 * names + run);
        StructureSearch x = new StructureSearch();
        Oracle oracle = new Oracle();
        fill(random, x, oracle, names);
        x.set(1, most);
        oracle.set(1, most);
        for (int name = 0; name < names; name++) {
            for (int of = 0; of < 1 << names; of++) {
                check.same("14: parents", x.parents(name, of), oracle.parents(name, of));
            }
        }
        check.same("15: best", x.best(), oracle.best());
        check.same("16: climb", x.climb(0, 30), oracle.climb(0, 30));
        for (int i = 0; i <= most; i++) {
            int graph = oracle.graphs()[random.nextInt(oracle.graphs().length)];
            check.same("16: climb", x.climb(graph, 4), oracle.climb(graph, 4));
        }
    }

    private static void fill(Random random, StructureSearch x, Oracle oracle, int names) {
        int strength = 1 + random.nextInt(9);
        x.set(0, strength);
        oracle.set(0, strength);
        int[] values = new int[5];
        for (int i = 0; i < names; i++) {
            values[i] = 2 + random.nextInt(2);
            x.name(values[i]);
            oracle.name(values[i]);
        }
        int rows = random.nextInt(17);
        for (int i = 0; i < rows; i++) {
            int[] v = new int[5];
            for (int k = 0; k < names; k++) {
                v[k] = k > 0 && random.nextInt(4) > 0 ? v[random.nextInt(k)] % values[k] : random.nextInt(values[k]);
            }
            x.row(v[0], v[1], v[2], v[3], v[4]);
            oracle.row(v[0], v[1], v[2], v[3], v[4]);
        }
    }
}
