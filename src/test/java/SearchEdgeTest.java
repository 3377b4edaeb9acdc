/** The boundary cases of promises 14, 15 and 16, a test for each sentence that names one. */
public final class SearchEdgeTest {
    private static final int BAD = StructureSearch.BAD;

    public static void main(String[] args) {
        Check check = new Check();
        parentsOutOfNone(check);
        parentsAtMost(check);
        parentsOfSeveral(check);
        parentsOnlyTogether(check);
        parentsNoName(check);
        parentsNoSet(check);
        parentsWithTheName(check);
        bestWithoutNames(check);
        bestWithoutRows(check);
        bestAtMost(check);
        bestOfSeveral(check);
        climbNoStep(check);
        climbAtMostSoManySteps(check);
        climbComesGoesTurns(check);
        climbBounded(check);
        climbOfSeveral(check);
        climbNotTheSameFit(check);
        climbNoneSuch(check);
        climbNoGraph(check);
        climbFromNotBounded(check);
        climbStepBounds(check);
        check.end();
    }

    /** Sixteen rows in which all names have the same value: the more parents, the better. */
    private static StructureSearch copies(int names, int most) {
        StructureSearch x = Made.twos(names);
        x.set(1, most);
        for (int i = 0; i < 16; i++) x.row(i % 2, i % 2, i % 2, i % 2, i % 2);
        return x;
    }

    /** Name 1 tells whether names 0 and 2 differ: each of them alone tells nothing of it. */
    private static StructureSearch odd(int most) {
        StructureSearch x = Made.twos(3);
        x.set(1, most);
        for (int i = 0; i < 16; i++) x.row(i & 1, i & 1 ^ i >> 1 & 1, i >> 1 & 1, 0, 0);
        return x;
    }

    /** 14: out of the SET without NAMES there is only that SET. */
    private static void parentsOutOfNone(Check check) {
        for (int name = 0; name < 5; name++) {
            check.same("14: out of none", copies(5, 4).parents(name, 0), 0);
            check.same("14: no rows", Made.twos(5).parents(name, 31 & ~(1 << name)), 0);
        }
        check.same("14: one name", Made.rows(Made.twos(1), 4).parents(0, 0), 0);
    }

    /** 14: "at most MOST NAMES out of a SET". */
    private static void parentsAtMost(Check check) {
        int[] due = {0, 1, 3, 7, 15};
        for (int most = 0; most <= 4; most++) {
            check.same("14: most " + most, copies(5, most).parents(4, 15), due[most]);
            check.same("14: out of two, most " + most, copies(5, most).parents(4, 6), new int[] {0, 2, 6, 6, 6}[most]);
        }
        StructureSearch x = copies(5, 4);
        check.same("14: four", x.parents(4, 15), 15);
        x.set(1, 1);
        check.same("14: one from now on", x.parents(4, 15), 1);
        x.set(1, 4);
        check.same("14: four again", x.parents(4, 15), 15);
    }

    /** 14: "of several the least number". */
    private static void parentsOfSeveral(Check check) {
        StructureSearch x = copies(5, 2);
        check.same("14: of six", x.parents(0, 30), 6);
        check.same("14: of three", x.parents(0, 26), 10);
        check.same("14: of one", x.parents(0, 24), 24);
        x.set(1, 1);
        check.same("14: of four", x.parents(0, 30), 2);
        check.same("14: of two", x.parents(2, 24), 8);
        check.same("14: the fifth name alone", x.parents(0, 16), 16);
    }

    /** 14: a SET may be the best though each part of it is not. */
    private static void parentsOnlyTogether(Check check) {
        check.same("14: both", odd(2).parents(1, 5), 5);
        check.same("14: one alone tells nothing", odd(2).parents(1, 1), 0);
        check.same("14: at most one", odd(1).parents(1, 5), 0);
    }

    /** 14: "BAD: no such NAME". */
    private static void parentsNoName(Check check) {
        check.same("14: no names", new StructureSearch().parents(0, 0), BAD);
        for (int names = 1; names <= 5; names++) {
            StructureSearch x = Made.twos(names);
            check.same("14: the last name", x.parents(names - 1, 0), 0);
            for (int name : new int[] {names, -1, 5, 32, Integer.MIN_VALUE, Integer.MAX_VALUE}) {
                check.same("14: name " + name + " of " + names, x.parents(name, 0), BAD);
            }
        }
    }

    /** 14: "of is no SET of NAMES that are there". */
    private static void parentsNoSet(Check check) {
        for (int names = 1; names <= 5; names++) {
            StructureSearch x = Made.twos(names);
            int all = (1 << names) - 2;
            check.same("14: all others", x.parents(0, all), 0);
            for (int of : new int[] {-1, -2, 1 << names, all | 1 << names, 64, 1 << 30, Integer.MIN_VALUE}) {
                check.same("14: set " + of + " of " + names, x.parents(0, of), BAD);
            }
        }
    }

    /** 14: "or has the NAME". */
    private static void parentsWithTheName(Check check) {
        StructureSearch x = copies(5, 4);
        for (int name = 0; name < 5; name++) {
            check.same("14: alone", x.parents(name, 1 << name), BAD);
            check.same("14: among all", x.parents(name, 31), BAD);
            check.same("14: without it", x.parents(name, 31 & ~(1 << name)), 31 & ~(1 << name));
        }
    }

    /** 15: "(0 without NAMES.)" */
    private static void bestWithoutNames(Check check) {
        check.same("15: no names", new StructureSearch().best(), 0);
        StructureSearch x = copies(5, 4);
        x.best();
        x.clear();
        check.same("15: no names any more", x.best(), 0);
        check.same("15: one name", Made.rows(Made.twos(1), 16).best(), 0);
    }

    /** 15: all FITS are 1 without ROWS, and 0 is the least number; so it is with one ROW. */
    private static void bestWithoutRows(Check check) {
        for (int names = 0; names <= 5; names++) {
            check.same("15: no rows", Made.twos(names).best(), 0);
            check.same("15: one row", Made.rows(Made.twos(names), 1).best(), 0);
        }
        StructureSearch x = copies(5, 4);
        for (int i = 0; i < 16; i++) x.drop(0);
        check.same("15: no rows any more", x.best(), 0);
    }

    /** 15: "Of all BOUNDED GRAPHS": no NAME has more than MOST PARENTS. */
    private static void bestAtMost(Check check) {
        int one = Made.arcs(0, 1, 0, 2, 0, 3, 0, 4);
        int two = one | Made.arcs(1, 2, 1, 3, 1, 4);
        int three = two | Made.arcs(2, 3, 2, 4);
        int[] due = {0, one, two, three, Made.upward(5)};
        StructureSearch x = copies(5, 4);
        for (int most = 4; most >= 0; most--) {
            x.set(1, most);
            check.same("15: most " + most, x.best(), due[most]);
        }
        x.set(1, 4);
        check.same("15: most 4 again", x.best(), Made.upward(5));
        // Each of the three names tells whether the other two differ: of these three graphs it is the least number.
        check.same("15: two are needed", odd(2).best(), Made.arcs(0, 2, 1, 2));
        check.same("15: one is allowed", odd(1).best(), 0);
    }

    /** 15: "of several the least number". */
    private static void bestOfSeveral(Check check) {
        check.same("15: of two", copies(2, 4).best(), Made.arc(0, 1));
        check.same("15: of six", copies(3, 4).best(), Made.upward(3));
        check.same("15: of all trees", copies(4, 1).best(), Made.arcs(0, 1, 0, 2, 0, 3));
        // Only names 1 and 2 of three go together.
        StructureSearch x = Made.twos(3);
        for (int i = 0; i < 16; i++) x.row(i & 1, i >> 1 & 1, i >> 1 & 1, 0, 0);
        check.same("15: of two, not the first name", x.best(), Made.arc(1, 2));
    }

    /** 16: with 0 steps it is the GRAPH itself. */
    private static void climbNoStep(Check check) {
        StructureSearch x = copies(5, 4);
        for (int graph : new int[] {0, Made.arc(4, 3), Made.upward(5), Made.upward(4)}) {
            check.same("16: no step from " + graph, x.climb(graph, 0), graph);
        }
        check.same("16: no names", new StructureSearch().climb(0, 0), 0);
    }

    /** 16: "at most so many steps": ten ARCS come one by one, the eleventh step finds none better. */
    private static void climbAtMostSoManySteps(Check check) {
        StructureSearch x = copies(5, 4);
        int here = 0;
        for (int steps = 0; steps <= 10; steps++) {
            int found = x.climb(0, steps);
            check.same("16: arcs after " + steps, Integer.bitCount(found), steps);
            check.same("16: the last ones stay", found & here, here);
            here = found;
        }
        check.same("16: eleven", x.climb(0, 11), here);
        check.same("16: thirty", x.climb(0, 30), here);
        check.same("16: all arcs", here, Made.upward(5));
    }

    /** 16: "if one ARC comes, goes, or is turned round". */
    private static void climbComesGoesTurns(Check check) {
        check.same("16: one comes", copies(2, 4).climb(0, 1), Made.arc(0, 1));
        StructureSearch apart = Made.twos(2);
        for (int i = 0; i < 16; i++) apart.row(i & 1, i >> 1 & 1, 0, 0, 0);
        check.same("16: one goes", apart.climb(Made.arc(0, 1), 1), 0);
        check.same("16: one goes, the other way", apart.climb(Made.arc(1, 0), 1), 0);
        check.same("16: one is turned", odd(4).climb(Made.arcs(0, 1, 1, 2), 1), Made.arcs(0, 1, 2, 1));
        check.same("16: another one is turned", odd(4).climb(Made.arcs(1, 0, 2, 1), 1), Made.arcs(0, 1, 2, 1));
        check.same("16: two are not turned at once", odd(4).climb(Made.arcs(1, 0, 1, 2), 1) == Made.arcs(0, 1, 2, 1) ? 1 : 0, 0);
    }

    /** 16: "of the BOUNDED GRAPHS": exactly MOST PARENTS are allowed, one more is not. */
    private static void climbBounded(Check check) {
        check.same("16: two parents allowed", odd(2).climb(Made.arcs(0, 1, 1, 2), 1), Made.arcs(0, 1, 2, 1));
        int other = odd(1).climb(Made.arcs(0, 1, 1, 2), 1);
        check.same("16: one parent allowed, an arc goes", other, Made.arc(0, 1));
        check.same("16: and the other one", odd(1).climb(Made.arcs(0, 1, 1, 2), 30), 0);
        for (int most = 0; most <= 4; most++) {
            int due = new int[] {0, 4, 7, 9, 10}[most];
            check.same("16: arcs with most " + most, Integer.bitCount(copies(5, most).climb(0, 30)), due);
        }
    }

    /** 16: "of several the least number". */
    private static void climbOfSeveral(Check check) {
        check.same("16: of twenty", copies(5, 4).climb(0, 1), Made.arc(0, 1));
        check.same("16: of six", copies(3, 1).climb(0, 1), Made.arc(0, 1));
        check.same("16: next to an arc", copies(3, 1).climb(Made.arc(1, 0), 1), Made.arcs(1, 0, 0, 2));
        StructureSearch x = Made.twos(3);
        for (int i = 0; i < 16; i++) x.row(i & 1, i >> 1 & 1, i >> 1 & 1, 0, 0);
        check.same("16: of two", x.climb(0, 1), Made.arc(1, 2));
    }

    /** 16: "is at hand if its FIT is greater than that of the one at hand; else it ends". */
    private static void climbNotTheSameFit(Check check) {
        check.same("16: turned round is the same", copies(2, 4).climb(Made.arc(1, 0), 30), Made.arc(1, 0));
        StructureSearch none = Made.twos(5);
        for (int graph : new int[] {0, Made.arc(4, 0), Made.upward(5)}) {
            check.same("16: no rows", none.climb(graph, 30), graph);
            check.same("16: one row", Made.rows(Made.twos(5), 1).climb(graph, 30), graph);
        }
        // What two arcs would bring one arc does not: it ends, though the best one is better.
        check.same("16: it ends below the best", odd(4).climb(0, 30), 0);
    }

    /** 16: "also when there is none such". */
    private static void climbNoneSuch(Check check) {
        check.same("16: no names", new StructureSearch().climb(0, 30), 0);
        check.same("16: one name", Made.rows(Made.twos(1), 16).climb(0, 30), 0);
        check.same("16: most 0", copies(5, 0).climb(0, 30), 0);
    }

    /** 16: "BAD: no GRAPH". */
    private static void climbNoGraph(Check check) {
        StructureSearch x = copies(4, 4);
        int[] none = {-1, 1, Made.arc(0, 4), Made.arc(4, 0), Made.arc(3, 3), Made.arcs(2, 3, 3, 2), 1 << 25,
            Integer.MIN_VALUE, Integer.MAX_VALUE};
        for (int graph : none) {
            check.same("16: no graph, no step " + graph, x.climb(graph, 0), BAD);
            check.same("16: no graph " + graph, x.climb(graph, 30), BAD);
        }
        check.same("16: no name", new StructureSearch().climb(2, 1), BAD);
    }

    /** 16: "or one that is not BOUNDED". */
    private static void climbFromNotBounded(Check check) {
        int[] parents = {0, Made.arc(0, 4), Made.arcs(0, 4, 1, 4), Made.arcs(0, 4, 1, 4, 2, 4),
            Made.arcs(0, 4, 1, 4, 2, 4, 3, 4)};
        for (int most = 0; most <= 4; most++) {
            StructureSearch x = copies(5, most);
            for (int i = 0; i <= 4; i++) {
                check.same("16: " + i + " parents, most " + most, x.climb(parents[i], 0), i <= most ? parents[i] : BAD);
                check.same("16: refused or not", x.climb(parents[i], 3) == BAD ? 1 : 0, i <= most ? 0 : 1);
            }
        }
    }

    /** 16: "steps is not 0 .. 30." */
    private static void climbStepBounds(Check check) {
        StructureSearch x = copies(2, 4);
        check.same("16: 0", x.climb(0, 0), 0);
        check.same("16: 30", x.climb(0, 30), Made.arc(0, 1));
        for (int steps : new int[] {-1, 31, 32, 1000, Integer.MIN_VALUE, Integer.MAX_VALUE}) {
            check.same("16: steps " + steps, x.climb(0, steps), BAD);
        }
    }
}
