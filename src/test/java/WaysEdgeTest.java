/** The boundary cases of promise 21, a test for each sentence that names one. */
public final class WaysEdgeTest {
    private static final int BAD = StructureSearch.BAD;

    public static void main(String[] args) {
        Check check = new Check();
        withoutRows(check);
        withoutSuchRows(check);
        oneRow(check);
        oneValue(check);
        notAbove(check);
        waysDiffer(check);
        asManyAsCanBe(check);
        valueNotLookedAt(check);
        onlySuchRows(check);
        noSuchNames(check);
        theSame(check);
        noSuchValue(check);
        noSuchPart(check);
        check.end();
    }

    private static void waysAre(Check check, String when, StructureSearch x, int[] asked, long some, long all) {
        check.same("21: " + when + ", not above", x.test(asked[0], asked[1], asked[2], asked[3], 0), some);
        check.same("21: " + when + ", all", x.test(asked[0], asked[1], asked[2], asked[3], 1), all);
    }

    private static int[] all(int a, int b) {
        return new int[] {a, b, -1, 0};
    }

    /** 21: "(Both 1 without ROWS.)" */
    private static void withoutRows(Check check) {
        StructureSearch x = Made.names(2, 3, 2);
        waysAre(check, "no rows", x, all(0, 1), 1, 1);
        waysAre(check, "no rows, a value", x, new int[] {0, 1, 2, 1}, 1, 1);
        Made.rows(x, 2, 1, 1, 1);
        x.drop(0);
        x.drop(0);
        waysAre(check, "no rows any more", x, all(1, 2), 1, 1);
    }

    /** The same if ROWS are there, but none in which c has the value v. */
    private static void withoutSuchRows(Check check) {
        StructureSearch x = Made.rows(Made.rows(Made.names(2, 2, 3), 8, 0, 0, 0), 8, 1, 1, 1);
        waysAre(check, "none such", x, new int[] {0, 1, 2, 2}, 1, 1);
        waysAre(check, "all", x, all(0, 1), 2, 12870);
    }

    /** One ROW, and one WAY. */
    private static void oneRow(Check check) {
        StructureSearch x = Made.rows(Made.names(3, 3, 2), 1, 2, 1, 1);
        waysAre(check, "one row", x, all(0, 1), 1, 1);
        waysAre(check, "one row, its value", x, new int[] {0, 1, 2, 1}, 1, 1);
        waysAre(check, "one row, another value", x, new int[] {0, 1, 2, 0}, 1, 1);
    }

    /** If a has one value there is one TABLE, if b has one value there is one WAY. */
    private static void oneValue(Check check) {
        StructureSearch x = Made.rows(Made.rows(Made.names(3, 2), 8, 2, 0), 8, 2, 1);
        waysAre(check, "a has one value", x, all(0, 1), 12870, 12870);
        waysAre(check, "b has one value", x, all(1, 0), 1, 1);
    }

    /** 21: "whose WEIGHT is not above that of the TABLE of these ROWS": as great counts, greater does not. */
    private static void notAbove(Check check) {
        // Tables by how often 0 goes with 0: none (1 way), once (4 ways), twice (1 way).
        StructureSearch x = Made.rows(Made.rows(Made.twos(2), 2, 0, 0), 2, 1, 1);
        waysAre(check, "1 of 1, 4, 1", x, all(0, 1), 2, 6);
        StructureSearch y = Made.rows(Made.rows(Made.twos(2), 2, 0, 1), 2, 1, 0);
        waysAre(check, "1 of 1, 4, 1, the other one", y, all(0, 1), 2, 6);
        StructureSearch z = Made.rows(Made.rows(Made.twos(2), 1, 0, 0), 1, 1, 1);
        Made.rows(Made.rows(z, 1, 0, 1), 1, 1, 0);
        waysAre(check, "4 of 1, 4, 1", z, all(0, 1), 6, 6);
        // Three 0 and one 1 of a, three 0 and one 1 of b: together (1 way) or not (3 ways).
        StructureSearch u = Made.rows(Made.rows(Made.twos(2), 3, 0, 0), 1, 1, 1);
        waysAre(check, "1 of 1, 3", u, all(0, 1), 1, 4);
        StructureSearch v = Made.rows(Made.rows(Made.rows(Made.twos(2), 2, 0, 0), 1, 0, 1), 1, 1, 0);
        waysAre(check, "3 of 1, 3", v, all(0, 1), 4, 4);
    }

    /** Terms: "to give b's values .. to these ROWS": it is b whose values are dealt anew. */
    private static void waysDiffer(Check check) {
        // Name 1 has three values once each: six ways. Name 0 has 0 twice and 1 once: three ways.
        StructureSearch x = Made.rows(Made.rows(Made.rows(Made.names(2, 3), 1, 0, 0), 1, 0, 1), 1, 1, 2);
        waysAre(check, "three values are dealt", x, all(0, 1), 6, 6);
        waysAre(check, "two values are dealt", x, all(1, 0), 3, 3);
    }

    /** Sixteen ROWS of three values: 16! / (6! 5! 5!) WAYS, of which two have the least WEIGHT. */
    private static void asManyAsCanBe(Check check) {
        StructureSearch x = Made.rows(Made.rows(Made.rows(Made.names(3, 3), 6, 0, 2), 5, 1, 0), 5, 2, 1);
        waysAre(check, "all apart", x, all(0, 1), 2, 2018016);
        waysAre(check, "all apart, turned", x, all(1, 0), 2, 2018016);
        StructureSearch y = Made.names(3, 3);
        for (int i = 0; i < 16; i++) y.row(i / 6 % 3, i % 3, 0, 0, 0);
        check.same("21: mixed, all", y.test(0, 1, -1, 0, 1), 2018016);
        Oracle oracle = new Oracle();
        oracle.name(3);
        oracle.name(3);
        for (int i = 0; i < 16; i++) oracle.row(i / 6 % 3, i % 3, 0, 0, 0);
        check.same("21: mixed, not above", y.test(0, 1, -1, 0, 0), oracle.test(0, 1, -1, 0, 0));
    }

    /** 21: "if c is -1 (then v is not looked at)". */
    private static void valueNotLookedAt(Check check) {
        StructureSearch x = Made.rows(Made.rows(Made.twos(2), 2, 0, 0), 2, 1, 1);
        for (int v : new int[] {Integer.MIN_VALUE, -1, 0, 1, 2, 3, 9, Integer.MAX_VALUE}) {
            waysAre(check, "v is " + v, x, new int[] {0, 1, -1, v}, 2, 6);
        }
    }

    /** 21: "in the ROWS in which a NAME c has the value v". */
    private static void onlySuchRows(Check check) {
        StructureSearch x = Made.names(2, 2, 2, 2, 3);
        Made.rows(Made.rows(x, 2, 0, 0, 0, 0, 0), 2, 1, 1, 0, 0, 0);
        Made.rows(Made.rows(x, 3, 0, 0, 0, 0, 1), 1, 1, 1, 0, 0, 1);
        Made.rows(x, 4, 0, 1, 0, 0, 2);
        waysAre(check, "value 0 of the fifth name", x, new int[] {0, 1, 4, 0}, 2, 6);
        waysAre(check, "value 1 of the fifth name", x, new int[] {0, 1, 4, 1}, 1, 4);
        waysAre(check, "value 2 of the fifth name", x, new int[] {0, 1, 4, 2}, 1, 1);
        waysAre(check, "value 1 of the first name", x, new int[] {1, 4, 0, 1}, 3, 3);
    }

    /** 21: "BAD: no such NAMES". */
    private static void noSuchNames(Check check) {
        check.same("21: no names", new StructureSearch().test(0, 1, -1, 0, 0), BAD);
        check.same("21: one name", Made.twos(1).test(0, 1, -1, 0, 0), BAD);
        check.same("21: one name, turned", Made.twos(1).test(1, 0, -1, 0, 0), BAD);
        for (int names = 2; names <= 5; names++) {
            StructureSearch x = Made.twos(names);
            for (int name : new int[] {-1, -2, names, names + 1, Integer.MIN_VALUE, Integer.MAX_VALUE}) {
                check.same("21: a " + name, x.test(name, 1, -1, 0, 0), BAD);
                check.same("21: b " + name, x.test(0, name, -1, 0, 1), BAD);
                check.same("21: c " + name, x.test(0, 1, name, 0, 1), name == -1 ? 1 : BAD);
            }
        }
    }

    /** 21: "two of a, b, c are the same". */
    private static void theSame(Check check) {
        StructureSearch x = Made.twos(5);
        for (int name = 0; name < 5; name++) {
            int other = (name + 1) % 5;
            check.same("21: a and b", x.test(name, name, -1, 0, 0), BAD);
            check.same("21: a and b, and a third", x.test(name, name, other, 0, 0), BAD);
            check.same("21: a and c", x.test(name, other, name, 0, 0), BAD);
            check.same("21: b and c", x.test(other, name, name, 0, 0), BAD);
            check.same("21: all three", x.test(name, name, name, 0, 0), BAD);
            check.same("21: none", x.test(name, other, (name + 2) % 5, 0, 0), 1);
        }
    }

    /** 21: "v is no value of c", be there ROWS or not. */
    private static void noSuchValue(Check check) {
        for (int rows = 0; rows <= 16; rows += 16) {
            StructureSearch x = Made.rows(Made.names(3, 3, 2, 3), rows, 1, 1, 1, 1);
            for (int v : new int[] {Integer.MIN_VALUE, -1, 2, 3, Integer.MAX_VALUE}) {
                check.same("21: two values, v " + v, x.test(0, 1, 2, v, 0), BAD);
            }
            for (int v : new int[] {Integer.MIN_VALUE, -1, 3, 4, Integer.MAX_VALUE}) {
                check.same("21: three values, v " + v, x.test(0, 1, 3, v, 0), BAD);
            }
            check.same("21: the greatest of two", x.test(0, 1, 2, 1, 0), 1);
            check.same("21: the greatest of three", x.test(0, 1, 3, 2, 0), 1);
            check.same("21: the least", x.test(0, 1, 3, 0, 1), 1);
        }
    }

    /** 21: "BAD: .. part." */
    private static void noSuchPart(Check check) {
        StructureSearch x = Made.rows(Made.twos(3), 1);
        for (int part : new int[] {-1, 2, 3, Integer.MIN_VALUE, Integer.MAX_VALUE}) {
            check.same("21: part " + part, x.test(0, 1, -1, 0, part), BAD);
            check.same("21: some rows, part " + part, x.test(0, 1, 2, 0, part), BAD);
        }
    }
}
