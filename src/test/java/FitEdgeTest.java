import java.math.BigInteger;

/** The boundary cases of promises 11, 12 and 13, a test for each sentence that names one. */
public final class FitEdgeTest {
    private static final int BAD = StructureSearch.BAD;

    public static void main(String[] args) {
        Check check = new Check();
        withoutNames(check);
        withoutRows(check);
        oneRow(check);
        leastTerms(check);
        withoutSign(check);
        lowestFirst(check);
        highestNotNull(check);
        noSuchWord(check);
        noSuchPart(check);
        noSuchGraph(check);
        waysWithoutRows(check);
        strengthBounds(check);
        asLongAsCanBe(check);
        notBounded(check);
        compareTheSame(check);
        compareLessAndGreater(check);
        compareNearly(check);
        compareNoGraph(check);
        check.end();
    }

    private static void partIs(Check check, String when, StructureSearch x, int graph, int part, BigInteger due) {
        int size = (due.bitLength() + 31) / 32;
        check.same(when + ": size of part " + part, x.size(graph, part), size);
        check.same(when + ": word -1 of part " + part, x.word(graph, part, -1), BAD);
        for (int i = 0; i < size; i++) {
            long word = due.shiftRight(32 * i).longValue() & 0xFFFFFFFFL;
            check.same(when + ": word " + i + " of part " + part, x.word(graph, part, i), word);
        }
        check.same(when + ": word behind the last of part " + part, x.word(graph, part, size), BAD);
    }

    private static void fitIs(Check check, String when, StructureSearch x, int graph, BigInteger above, BigInteger below) {
        BigInteger common = above.gcd(below);
        partIs(check, when, x, graph, 0, above.divide(common));
        partIs(check, when, x, graph, 1, below.divide(common));
    }

    private static void fitIs(Check check, String when, StructureSearch x, int graph, long above, long below) {
        fitIs(check, when, x, graph, BigInteger.valueOf(above), BigInteger.valueOf(below));
    }

    /** Terms: THE FIT of a GRAPH is a product over all NAMES, and "a product without factors is 1". */
    private static void withoutNames(Check check) {
        fitIs(check, "12: no names", new StructureSearch(), 0, 1, 1);
    }

    /** Terms: without ROWS no way brings a factor. */
    private static void withoutRows(Check check) {
        StructureSearch x = Made.names(3, 2, 3, 2, 3);
        x.set(0, 9);
        fitIs(check, "12: no rows, no arcs", x, 0, 1, 1);
        fitIs(check, "12: no rows, all arcs", x, Made.upward(5), 1, 1);
        Made.rows(x, 1);
        x.drop(0);
        fitIs(check, "12: no rows any more", x, Made.upward(5), 1, 1);
    }

    /** One ROW brings w / (r w) for each NAME, whatever its PARENTS. */
    private static void oneRow(Check check) {
        for (int strength = 1; strength <= 9; strength++) {
            StructureSearch x = Made.rows(Made.names(2, 3, 2, 3, 3), 1, 1, 2, 1, 2, 2);
            x.set(0, strength);
            fitIs(check, "12: one row, no arcs", x, 0, 1, 108);
            fitIs(check, "12: one row, all arcs", x, Made.upward(5), 1, 108);
        }
    }

    /** Terms: "It is told as a fraction in least terms". */
    private static void leastTerms(Check check) {
        // 2 * 4 / (4 * 6), 3 * 5 / (6 * 8), 3 * 3 / (9 * 12).
        StructureSearch x = Made.rows(Made.names(2), 2);
        x.set(0, 2);
        check.same("12: 1 of 1/3", x.word(0, 0, 0), 1);
        check.same("12: 3 of 1/3", x.word(0, 1, 0), 3);
        x.set(0, 3);
        check.same("12: 5 of 5/16", x.word(0, 0, 0), 5);
        check.same("12: 16 of 5/16", x.word(0, 1, 0), 16);
        StructureSearch y = Made.rows(Made.rows(Made.names(3), 1, 0), 1, 2);
        y.set(0, 3);
        check.same("12: 1 of 1/12", y.word(0, 0, 0), 1);
        check.same("12: 12 of 1/12", y.word(0, 1, 0), 12);
        // What goes out only between two names: 3/8 of one, and 1 * 1 / (3 * 6) of the other.
        StructureSearch z = Made.rows(Made.rows(Made.names(2, 3), 1, 1, 0), 1, 1, 2);
        check.same("12: 1 of 1/48", z.word(0, 0, 0), 1);
        check.same("12: 48 of 1/48", z.word(0, 1, 0), 48);
    }

    /** Terms: WORDS are "without sign": sixteen ROWS alike bring 300540195 / 2^31. */
    private static void withoutSign(Check check) {
        StructureSearch x = Made.rows(Made.names(2), 16, 1);
        check.same("11: one word above", x.size(0, 0), 1);
        check.same("11: one word below", x.size(0, 1), 1);
        check.same("12: above", x.word(0, 0, 0), 300540195L);
        check.same("12: below", x.word(0, 1, 0), 2147483648L);
        check.same("12: no word more", x.word(0, 1, 1), BAD);
    }

    /** Terms: "the lowest first": nine ROWS alike of two NAMES bring 12155^2 / 2^32. */
    private static void lowestFirst(Check check) {
        StructureSearch x = Made.rows(Made.twos(2), 9);
        check.same("11: one word above", x.size(0, 0), 1);
        check.same("12: above", x.word(0, 0, 0), 147744025L);
        check.same("11: two words below", x.size(0, 1), 2);
        check.same("12: the lowest", x.word(0, 1, 0), 0);
        check.same("12: the highest", x.word(0, 1, 1), 1);
        check.same("12: no word more", x.word(0, 1, 2), BAD);
    }

    /** Terms: "the highest one not 0": no WORD more than it needs, also when a longer number was told before. */
    private static void highestNotNull(Check check) {
        StructureSearch x = Made.rows(Made.twos(2), 9);
        check.same("11: 2^32", x.size(0, 1), 2);
        x.drop(0);
        check.same("11: 2^30", x.size(0, 1), 1);
        check.same("12: 2^30", x.word(0, 1, 0), 1073741824L);
        check.same("12: no second word", x.word(0, 1, 1), BAD);
        StructureSearch y = Made.rows(Made.twos(5), 9);
        partIs(check, "12: five names", y, 0, 0, BigInteger.valueOf(12155).pow(5));
        partIs(check, "12: five names", y, 0, 1, BigInteger.TWO.pow(80));
    }

    /** 12: "it has no such WORD". */
    private static void noSuchWord(Check check) {
        StructureSearch x = Made.rows(Made.twos(2), 9);
        for (int i : new int[] {-1, -2, 2, 3, 1000, Integer.MIN_VALUE, Integer.MAX_VALUE}) {
            check.same("12: word " + i, x.word(0, 1, i), BAD);
        }
        for (int i : new int[] {-1, 1, 2, Integer.MIN_VALUE, Integer.MAX_VALUE}) {
            check.same("12: word above " + i, x.word(0, 0, i), BAD);
        }
    }

    /** 11: "part is not 0, 1"; 12: "as size()". */
    private static void noSuchPart(Check check) {
        StructureSearch x = Made.rows(Made.twos(2), 9);
        for (int part : new int[] {-1, 2, 3, Integer.MIN_VALUE, Integer.MAX_VALUE}) {
            check.same("11: part " + part, x.size(0, part), BAD);
            check.same("12: part " + part, x.word(0, part, 0), BAD);
        }
    }

    /** 11: "no GRAPH"; 12: "as size()". */
    private static void noSuchGraph(Check check) {
        StructureSearch x = Made.rows(Made.twos(3), 2);
        int[] none = {-1, 1, Made.arc(2, 2), Made.arc(0, 3), Made.arc(3, 0), Made.arcs(0, 1, 1, 0),
            Made.arcs(0, 1, 1, 2, 2, 0), 1 << 25, Integer.MIN_VALUE, Integer.MAX_VALUE};
        for (int graph : none) {
            for (int part = 0; part < 2; part++) {
                check.same("11: graph " + graph, x.size(graph, part), BAD);
                check.same("12: graph " + graph, x.word(graph, part, 0), BAD);
            }
        }
    }

    /** Terms: "For each way in which the PARENTS may have values": those that no ROW has bring 1, and count in q. */
    private static void waysWithoutRows(Check check) {
        // Name 1 with the parent 0 of three values: r = 2, q = 3; 1 * 7 / (2 * 8). Name 0: 1 * 4 / (3 * 6).
        StructureSearch x = Made.rows(Made.names(3, 2), 2, 2, 1);
        fitIs(check, "12: one way of three", x, Made.arc(0, 1), 28, 288);
        // Two ways with a row each: 1/2 * 1/2 for name 1. Name 0: 1 * 1 / (3 * 6).
        StructureSearch y = Made.rows(Made.rows(Made.names(3, 2), 1, 2, 1), 1, 0, 1);
        fitIs(check, "12: two ways of three", y, Made.arc(0, 1), 1, 72);
        // One way without any parents: 1 * 3 / (2 * 4) for name 1.
        fitIs(check, "12: one way without any", y, 0, 3, 144);
    }

    /** Terms: "STRENGTH is 1 .. 9". */
    private static void strengthBounds(Check check) {
        StructureSearch x = Made.rows(Made.rows(Made.names(2), 2), 1, 1);
        // 1 * 3 * 1 / (2 * 4 * 6); 9 * 11 * 9 / (18 * 20 * 22).
        fitIs(check, "12: strength 1", x, 0, 3, 48);
        x.set(0, 9);
        fitIs(check, "12: strength 9", x, 0, 891, 7920);
        x.set(0, 10);
        fitIs(check, "12: strength 9 still", x, 0, 891, 7920);
        x.set(0, 0);
        fitIs(check, "12: strength 9 yet", x, 0, 891, 7920);
        x.set(0, 1);
        fitIs(check, "12: strength 1 again", x, 0, 3, 48);
    }

    /** Five NAMES of three VALUES, sixteen ROWS alike, ARCS between all: the product of the formula's factors. */
    private static void asLongAsCanBe(Check check) {
        for (int strength = 1; strength <= 9; strength += 4) {
            StructureSearch x = Made.rows(Made.names(3, 3, 3, 3, 3), 16, 2, 0, 1, 2, 1);
            x.set(0, strength);
            BigInteger above = BigInteger.ONE;
            BigInteger below = BigInteger.ONE;
            for (int step = 3; step <= 243; step *= 3) {
                for (int j = 0; j < 16; j++) {
                    above = above.multiply(BigInteger.valueOf(strength + j * step));
                    below = below.multiply(BigInteger.valueOf(3 * strength + j * step));
                }
            }
            fitIs(check, "12: as long as can be", x, Made.upward(5), above, below);
        }
    }

    /** 11 to 13 ask for a GRAPH, be it BOUNDED or not. */
    private static void notBounded(Check check) {
        StructureSearch x = Made.rows(Made.twos(2), 2);
        x.set(1, 0);
        fitIs(check, "12: not bounded", x, Made.arc(0, 1), 5, 32);
        check.same("13: not bounded", x.compare(Made.arc(0, 1), 0), 2);
    }

    /** 13: "the same as (1)": itself, one without rows, one that is ALIKE. */
    private static void compareTheSame(Check check) {
        check.same("13: no names", new StructureSearch().compare(0, 0), 1);
        check.same("13: no rows", Made.twos(5).compare(0, Made.upward(5)), 1);
        StructureSearch x = Made.rows(Made.rows(Made.names(3, 2, 3), 3, 1, 1, 2), 2, 2, 1, 0);
        check.same("13: itself", x.compare(Made.upward(3), Made.upward(3)), 1);
        check.same("13: one that is alike", x.compare(Made.upward(3), Made.arcs(2, 1, 2, 0, 1, 0)), 1);
        check.same("13: one row", Made.rows(Made.twos(5), 1).compare(Made.upward(5), 0), 1);
    }

    /** 13: "less than (0)", "greater than (2)". */
    private static void compareLessAndGreater(Check check) {
        StructureSearch x = Made.rows(Made.twos(2), 2);
        check.same("13: 9/64 and 10/64", x.compare(0, Made.arc(0, 1)), 0);
        check.same("13: 10/64 and 9/64", x.compare(Made.arc(1, 0), 0), 2);
        StructureSearch y = Made.rows(Made.rows(Made.twos(2), 1, 0, 0), 1, 0, 1);
        check.same("13: 3/64 and 2/64", y.compare(0, Made.arc(0, 1)), 2);
        check.same("13: 2/64 and 3/64", y.compare(Made.arc(0, 1), 0), 0);
        StructureSearch z = Made.rows(Made.names(3, 3, 3, 3, 3), 16, 1, 1, 1, 1, 1);
        check.same("13: as long as can be", z.compare(0, Made.upward(5)), 0);
        check.same("13: as long as can be, turned", z.compare(Made.upward(5), 0), 2);
    }

    /** 13 is exact: fits whose quotient is as near to 1 as the rows of five names and all strengths bring it. */
    private static void compareNearly(Check check) {
        for (int strength = 1; strength <= 9; strength++) {
            for (int first = 0; first <= 8; first++) {
                StructureSearch x = new StructureSearch();
                Oracle oracle = new Oracle();
                oracle.set(0, strength);
                x.set(0, strength);
                for (int i = 0; i < 2; i++) {
                    x.name(2);
                    oracle.name(2);
                }
                for (int i = 0; i < 16; i++) {
                    int a = i < 8 ? 0 : 1;
                    int b = i % 8 < (a == 0 ? first : 4) ? 0 : 1;
                    x.row(a, b, 0, 0, 0);
                    oracle.row(a, b, 0, 0, 0);
                }
                check.same("13: nearly", x.compare(0, Made.arc(0, 1)), oracle.compare(0, Made.arc(0, 1)));
                check.same("13: nearly, turned", x.compare(Made.arc(1, 0), 0), oracle.compare(Made.arc(1, 0), 0));
            }
        }
    }

    /** 13: "BAD": the one or the other is no GRAPH. */
    private static void compareNoGraph(Check check) {
        StructureSearch x = Made.rows(Made.twos(2), 2);
        for (int graph : new int[] {-1, 1, Made.arc(0, 2), Made.arcs(0, 1, 1, 0), 1 << 25, Integer.MIN_VALUE}) {
            check.same("13: first " + graph, x.compare(graph, 0), BAD);
            check.same("13: second " + graph, x.compare(0, graph), BAD);
            check.same("13: both " + graph, x.compare(graph, graph), BAD);
        }
    }
}
