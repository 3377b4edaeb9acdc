import java.util.Random;

/** Promise 21: test. */
public final class WaysTest {
    private static final int BAD = StructureSearch.BAD;

    public static void main(String[] args) {
        Check check = new Check();
        byHand(check);
        someRows(check);
        refusals(check);
        for (int run = 0; run < 40; run++) againstOracle(check, run);
        check.end();
    }

    private static void waysAre(Check check, StructureSearch x, int a, int b, int c, int v, long some, long all) {
        check.same("21: not above", x.test(a, b, c, v, 0), some);
        check.same("21: all", x.test(a, b, c, v, 1), all);
    }

    private static void byHand(Check check) {
        StructureSearch x = new StructureSearch();
        x.name(2);
        x.name(3);
        waysAre(check, x, 0, 1, -1, 0, 1, 1);
        x.row(0, 0, 0, 0, 0);
        waysAre(check, x, 0, 1, -1, 0, 1, 1);
        x.row(0, 0, 0, 0, 0);
        waysAre(check, x, 0, 1, -1, 0, 1, 1);
        x.row(1, 1, 0, 0, 0);
        x.row(1, 1, 0, 0, 0);
        // Tables by how often 0 goes with 0: none (1 way), once (4), twice (1).
        waysAre(check, x, 0, 1, -1, 0, 2, 6);
        waysAre(check, x, 1, 0, -1, 0, 2, 6);
        x.drop(3);
        x.drop(1);
        x.row(0, 1, 0, 0, 0);
        x.row(1, 0, 0, 0, 0);
        waysAre(check, x, 0, 1, -1, 0, 6, 6);
        x.clear();
        x.name(3);
        x.name(3);
        for (int i = 0; i < 3; i++) x.row(i, i, 0, 0, 0);
        // Each of the six ways has a table of its own.
        waysAre(check, x, 0, 1, -1, 0, 6, 6);
        for (int i = 0; i < 3; i++) x.row(i, i, 0, 0, 0);
        // The six tables like it have the weight 1, all others more.
        waysAre(check, x, 0, 1, -1, 0, 6, 90);
    }

    private static void someRows(Check check) {
        StructureSearch x = new StructureSearch();
        x.name(2);
        x.name(2);
        x.name(3);
        x.row(0, 0, 0, 0, 0);
        x.row(1, 1, 0, 0, 0);
        x.row(0, 0, 0, 0, 0);
        x.row(0, 0, 1, 0, 0);
        x.row(0, 1, 1, 0, 0);
        waysAre(check, x, 0, 1, 2, 0, 1, 3);
        waysAre(check, x, 0, 1, 2, 1, 2, 2);
        waysAre(check, x, 0, 1, 2, 2, 1, 1);
        // All five: name 1 has 1 twice, name 0 once; the one of name 0 is among these (4 ways) or not (6).
        waysAre(check, x, 0, 1, -1, 0, 4, 10);
        waysAre(check, x, 0, 1, -1, Integer.MIN_VALUE, 4, 10);
        waysAre(check, x, 0, 1, -1, Integer.MAX_VALUE, 4, 10);
    }

    private static void refusals(Check check) {
        StructureSearch x = new StructureSearch();
        check.same("21: no names", x.test(0, 1, -1, 0, 0), BAD);
        x.name(2);
        check.same("21: one name", x.test(0, 1, -1, 0, 0), BAD);
        x.name(2);
        x.name(2);
        x.name(3);
        for (int name : new int[] {-1, -2, 4, 5, Integer.MIN_VALUE, Integer.MAX_VALUE}) {
            check.same("21: a is " + name, x.test(name, 1, -1, 0, 0), BAD);
            check.same("21: b is " + name, x.test(0, name, -1, 0, 0), BAD);
            if (name != -1) check.same("21: c is " + name, x.test(0, 1, name, 0, 0), BAD);
        }
        check.same("21: a and b", x.test(1, 1, -1, 0, 0), BAD);
        check.same("21: a and b, with c", x.test(1, 1, 2, 0, 0), BAD);
        check.same("21: a and c", x.test(0, 1, 0, 0, 0), BAD);
        check.same("21: b and c", x.test(0, 1, 1, 0, 0), BAD);
        for (int v : new int[] {-1, 2, Integer.MIN_VALUE, Integer.MAX_VALUE}) {
            check.same("21: value " + v, x.test(0, 1, 2, v, 0), BAD);
        }
        check.same("21: value 2 of three", x.test(0, 1, 3, 2, 0), 1);
        check.same("21: value 3 of three", x.test(0, 1, 3, 3, 0), BAD);
        for (int part : new int[] {-1, 2, Integer.MIN_VALUE, Integer.MAX_VALUE}) {
            check.same("21: part " + part, x.test(0, 1, -1, 0, part), BAD);
        }
    }

    private static void againstOracle(Check check, int run) {
        Random random = new Random(run);
        StructureSearch x = new StructureSearch();
        Oracle oracle = new Oracle();
        for (int i = 0; i < 3; i++) {
            int values = run % 2 == 0 ? 3 : 2 + random.nextInt(2);
            x.name(values);
            oracle.name(values);
        }
        int rows = run % 4 == 0 ? 16 : random.nextInt(17);
        for (int i = 0; i < rows; i++) {
            int a = random.nextInt(2 + run % 2) % oracle.about(4);
            int b = random.nextInt(2) == 0 ? a % oracle.about(5) : random.nextInt(oracle.about(5));
            int c = random.nextInt(oracle.about(6));
            x.row(a, b, c, 0, 0);
            oracle.row(a, b, c, 0, 0);
        }
        for (int part = 0; part < 2; part++) {
            for (int a = 0; a < 3; a++) {
                for (int b = 0; b < 3; b++) {
                    check.same("21: all rows", x.test(a, b, -1, 0, part), oracle.test(a, b, -1, 0, part));
                    int c = 3 - a - b;
                    for (int v = 0; v < 3; v++) {
                        check.same("21: some rows", x.test(a, b, c, v, part), oracle.test(a, b, c, v, part));
                    }
                }
            }
        }
    }
}
