/** The boundary cases of promises 9, 10, 17 and 18, a test for each sentence that names one. */
public final class GraphEdgeTest {
    private static final int BAD = StructureSearch.BAD;

    public static void main(String[] args) {
        Check check = new Check();
        withoutArcs(check);
        namesThatAreThere(check);
        toItself(check);
        comesBack(check);
        otherBits(check);
        asManyArcsAsCanBe(check);
        namesThatComeAndGo(check);
        orderOfNone(check);
        orderBounds(check);
        orderLeastFirst(check);
        orderWaitsForAll(check);
        alikeItself(check);
        alikePairs(check);
        alikeMeetings(check);
        alikeWithoutMeetings(check);
        alikeNoGraph(check);
        kinOfNone(check);
        kinOfOne(check);
        kinOfMany(check);
        kinNotBounded(check);
        kinAnotherWhat(check);
        check.end();
    }

    /** Terms: "0 is the GRAPH without ARCS", with any number of NAMES. */
    private static void withoutArcs(Check check) {
        for (int names = 0; names <= 5; names++) check.holds("9: 0, " + names + " names", Made.twos(names).isGraph(0));
    }

    /** Terms: "ARCS are between NAMES that are there". */
    private static void namesThatAreThere(Check check) {
        for (int names = 0; names <= 5; names++) {
            StructureSearch x = Made.twos(names);
            for (int p = 0; p < 5; p++) {
                for (int c = 0; c < 5; c++) {
                    boolean due = p != c && p < names && c < names;
                    check.same("9: from " + p + " to " + c + " of " + names, x.isGraph(Made.arc(p, c)) ? 1 : 0, due ? 1 : 0);
                }
            }
        }
    }

    /** Terms: "none leads from a NAME to itself", alone or among others. */
    private static void toItself(Check check) {
        StructureSearch x = Made.twos(5);
        for (int name = 0; name < 5; name++) {
            check.holds("9: alone " + name, !x.isGraph(Made.arc(name, name)));
            check.holds("9: among others " + name, !x.isGraph(Made.arc(name, name) | Made.upward(5)));
        }
    }

    /** Terms: "no way along ARCS comes back to where it began", be it of two ARCS or of five. */
    private static void comesBack(Check check) {
        StructureSearch x = Made.twos(5);
        for (int length = 2; length <= 5; length++) {
            for (int first = 0; first < 5; first++) {
                int way = 0;
                for (int i = 0; i + 1 < length; i++) way |= Made.arc((first + i) % 5, (first + i + 1) % 5);
                check.holds("9: a way of " + length, x.isGraph(way));
                check.holds("9: it comes back", !x.isGraph(way | Made.arc((first + length - 1) % 5, first)));
            }
        }
        check.holds("9: two ways to one name", x.isGraph(Made.arcs(0, 1, 1, 3, 0, 2, 2, 3)));
        check.holds("9: it comes back behind the first name", !x.isGraph(Made.arcs(0, 1, 1, 2, 2, 3, 3, 1)));
        check.holds("9: it comes back apart from others", !x.isGraph(Made.arcs(0, 1, 3, 4, 4, 3)));
    }

    /** Terms: "other bits are 0": bits 25 to 31 never stand for an ARC. */
    private static void otherBits(Check check) {
        for (int names = 0; names <= 5; names += 5) {
            StructureSearch x = Made.twos(names);
            for (int bit = 25; bit < 32; bit++) {
                check.holds("9: bit " + bit, !x.isGraph(1 << bit));
                check.holds("9: bit " + bit + " with an arc", !x.isGraph(1 << bit | Made.arc(0, 1)));
            }
            check.holds("9: -1", !x.isGraph(-1));
            check.holds("9: all but the sign", !x.isGraph(Integer.MAX_VALUE));
        }
    }

    /** Ten ARCS are the most that five NAMES have; one more comes back. */
    private static void asManyArcsAsCanBe(Check check) {
        StructureSearch x = Made.twos(5);
        int up = Made.upward(5);
        check.holds("9: all upward", x.isGraph(up));
        for (int a = 0; a < 5; a++) {
            for (int b = a + 1; b < 5; b++) {
                check.holds("9: one turned back too", !x.isGraph(up | Made.arc(b, a)));
                boolean stays = b == a + 1;
                check.same("9: one turned round", x.isGraph(up ^ Made.arcs(a, b, b, a)) ? 1 : 0, stays ? 1 : 0);
            }
        }
    }

    /** A number becomes a GRAPH with the NAME that it needs, and is none after clear(). */
    private static void namesThatComeAndGo(Check check) {
        StructureSearch x = Made.twos(4);
        check.holds("9: the fifth is not there", !x.isGraph(Made.arc(4, 0)));
        x.name(3);
        check.holds("9: the fifth is there", x.isGraph(Made.arc(4, 0)));
        Made.rows(x, 1);
        x.set(1, 0);
        check.holds("9: bounded or not", x.isGraph(Made.arc(4, 0)));
        x.clear();
        check.holds("9: no name any more", !x.isGraph(Made.arc(4, 0)));
    }

    /** 10: without NAMES there is no i. */
    private static void orderOfNone(Check check) {
        StructureSearch x = new StructureSearch();
        for (int i = -1; i <= 5; i++) check.same("10: no names, " + i, x.order(0, i), BAD);
    }

    /** 10: "i is not 0 .. NAMES - 1". */
    private static void orderBounds(Check check) {
        for (int names = 1; names <= 5; names++) {
            StructureSearch x = Made.twos(names);
            check.same("10: -1", x.order(0, -1), BAD);
            check.same("10: the first", x.order(0, 0), 0);
            check.same("10: the last", x.order(0, names - 1), names - 1);
            check.same("10: as many as there are", x.order(0, names), BAD);
            check.same("10: far above", x.order(0, Integer.MAX_VALUE), BAD);
            check.same("10: far below", x.order(0, Integer.MIN_VALUE), BAD);
            check.same("10: no graph", x.order(1, 0), BAD);
        }
    }

    private static void orderIs(Check check, int graph, int... due) {
        StructureSearch x = Made.twos(due.length);
        for (int i = 0; i < due.length; i++) check.same("10: order(" + graph + ", " + i + ")", x.order(graph, i), due[i]);
    }

    /** 10: "always next is the least NAME that did not come yet": also one that became free only now. */
    private static void orderLeastFirst(Check check) {
        orderIs(check, 0, 0, 1, 2, 3, 4);
        orderIs(check, Made.arc(1, 0), 1, 0, 2, 3, 4);
        orderIs(check, Made.arc(4, 0), 1, 2, 3, 4, 0);
        orderIs(check, Made.arcs(3, 1, 1, 0), 2, 3, 1, 0, 4);
        orderIs(check, Made.arcs(4, 3, 3, 2, 2, 1, 1, 0), 4, 3, 2, 1, 0);
        orderIs(check, Made.upward(5), 0, 1, 2, 3, 4);
    }

    /** 10: "all of whose PARENTS came". */
    private static void orderWaitsForAll(Check check) {
        orderIs(check, Made.arcs(1, 0, 2, 0, 3, 0, 4, 0), 1, 2, 3, 4, 0);
        orderIs(check, Made.arcs(1, 0, 3, 0), 1, 2, 3, 0, 4);
        orderIs(check, Made.arcs(2, 0, 2, 1), 2, 0, 1);
        orderIs(check, Made.arcs(2, 0, 0, 1), 2, 0, 1, 3);
    }

    /** 17: a GRAPH is ALIKE itself, the one without ARCS and without NAMES too. */
    private static void alikeItself(Check check) {
        check.same("17: no names", new StructureSearch().alike(0, 0), 1);
        StructureSearch x = Made.twos(5);
        for (int graph : new int[] {0, Made.arc(4, 3), Made.arcs(0, 2, 1, 2), Made.upward(5)}) {
            check.same("17: itself " + graph, x.alike(graph, graph), 1);
        }
        check.same("17: no graph", x.alike(1, 1), BAD);
    }

    /** Terms: "the same two NAMES have an ARC between them, either way". */
    private static void alikePairs(Check check) {
        StructureSearch x = Made.twos(5);
        check.same("17: the other way", x.alike(Made.arc(0, 4), Made.arc(4, 0)), 1);
        check.same("17: another pair", x.alike(Made.arc(0, 4), Made.arc(0, 3)), 0);
        check.same("17: an arc more", x.alike(Made.arc(0, 4), Made.arcs(0, 4, 1, 2)), 0);
        check.same("17: an arc less", x.alike(Made.arcs(0, 4, 1, 2), Made.arc(1, 2)), 0);
        check.same("17: none", x.alike(Made.arc(0, 4), 0), 0);
    }

    /** Terms: "in both the same NAMES are MEETINGS", not only as many. */
    private static void alikeMeetings(Check check) {
        StructureSearch x = Made.twos(5);
        int atOne = Made.arcs(0, 1, 2, 1, 2, 3);
        int atTwo = Made.arcs(0, 1, 1, 2, 3, 2);
        check.same("17: one meeting each, at other names", x.alike(atOne, atTwo), 0);
        int first = Made.arcs(0, 1, 2, 1, 1, 3);
        int second = Made.arcs(0, 1, 3, 1, 1, 2);
        check.same("17: one meeting each, from other names", x.alike(first, second), 0);
        check.same("17: three meetings at one name, and one", x.alike(Made.arcs(0, 1, 2, 1, 3, 1), first), 0);
        check.same("17: none, and one", x.alike(Made.arcs(1, 0, 1, 2, 1, 3), first), 0);
        check.same("17: the same one, the rest turned", x.alike(Made.arcs(0, 1, 2, 1, 3, 4), Made.arcs(0, 1, 2, 1, 4, 3)), 1);
        check.same("17: the same two", x.alike(Made.arcs(0, 2, 1, 2, 0, 3, 1, 3), Made.arcs(0, 2, 1, 2, 0, 3, 1, 3)), 1);
        check.same("17: two, and one", x.alike(Made.arcs(0, 2, 1, 2, 0, 3, 1, 3), Made.arcs(0, 2, 1, 2, 3, 0, 3, 1)), 0);
    }

    /** Terms: a MEETING has no ARC "between a and b". */
    private static void alikeWithoutMeetings(Check check) {
        StructureSearch x = Made.twos(5);
        check.same("17: three names, all tied", x.alike(Made.upward(3), Made.arcs(2, 0, 1, 0, 1, 2)), 1);
        check.same("17: five names, all tied", x.alike(Made.upward(5), Made.arcs(4, 3, 4, 2, 4, 1, 4, 0, 3, 2, 3, 1, 3, 0,
            2, 1, 2, 0, 1, 0)), 1);
        check.same("17: tied either way", x.alike(Made.arcs(0, 2, 1, 2, 0, 1), Made.arcs(0, 2, 1, 2, 1, 0)), 1);
    }

    /** 17: "BAD": the one or the other is no GRAPH. */
    private static void alikeNoGraph(Check check) {
        StructureSearch x = Made.twos(3);
        int[] none = {-1, 1, Made.arc(0, 3), Made.arc(3, 0), Made.arcs(0, 1, 1, 0), Made.arcs(0, 1, 1, 2, 2, 0), 1 << 25,
            Integer.MIN_VALUE, Integer.MAX_VALUE};
        for (int graph : none) {
            check.same("17: the first " + graph, x.alike(graph, 0), BAD);
            check.same("17: the second " + graph, x.alike(0, graph), BAD);
            check.same("17: both " + graph, x.alike(graph, graph), BAD);
        }
        check.same("17: no names", new StructureSearch().alike(0, Made.arc(0, 1)), BAD);
    }

    private static void kinIs(Check check, StructureSearch x, int graph, int... due) {
        for (int what = 0; what < 4; what++) {
            check.same("18: kin(" + graph + ", " + what + ")", x.kin(graph, what), due[what]);
        }
    }

    /** 18: "it is one of them": the GRAPH without ARCS is alone. */
    private static void kinOfNone(Check check) {
        for (int names = 0; names <= 5; names++) kinIs(check, Made.twos(names), 0, 1, 0, 0, 0);
    }

    /** 18: a GRAPH that no other one is ALIKE has all its ARCS in common with itself. */
    private static void kinOfOne(Check check) {
        StructureSearch x = Made.twos(5);
        int meeting = Made.arcs(0, 4, 1, 4);
        kinIs(check, x, meeting, 1, meeting, meeting, meeting);
        int led = Made.arcs(0, 2, 1, 2, 2, 3, 3, 4);
        kinIs(check, x, led, 1, led, led, led);
        int four = Made.arcs(0, 4, 1, 4, 2, 4, 3, 4);
        kinIs(check, x, four, 1, four, four, four);
    }

    /** 18: how many, the least, the greatest, and what all have. */
    private static void kinOfMany(Check check) {
        StructureSearch x = Made.twos(5);
        kinIs(check, x, Made.arc(3, 4), 2, Made.arc(3, 4), Made.arc(4, 3), 0);
        int up = Made.arcs(0, 1, 1, 2, 2, 3, 3, 4);
        int down = Made.arcs(1, 0, 2, 1, 3, 2, 4, 3);
        kinIs(check, x, up, 5, up, down, 0);
        kinIs(check, x, down, 5, up, down, 0);
        // All tied: one for each order of the five.
        int all = Made.upward(5);
        kinIs(check, x, all, 120, all, Made.arcs(4, 3, 4, 2, 4, 1, 4, 0, 3, 2, 3, 1, 3, 0, 2, 1, 2, 0, 1, 0), 0);
        int partly = Made.arcs(0, 2, 1, 2, 4, 3);
        kinIs(check, x, partly, 2, Made.arcs(0, 2, 1, 2, 3, 4), partly, Made.arcs(0, 2, 1, 2));
    }

    /** 18: "BOUNDED or not". */
    private static void kinNotBounded(Check check) {
        for (int most = 0; most <= 4; most++) {
            StructureSearch x = Made.twos(3);
            x.set(1, most);
            int all = Made.upward(3);
            kinIs(check, x, all, 6, all, Made.arcs(2, 1, 2, 0, 1, 0), 0);
            kinIs(check, x, Made.arc(1, 0), 2, Made.arc(0, 1), Made.arc(1, 0), 0);
        }
    }

    /** 18: "BAD: no GRAPH, another what." */
    private static void kinAnotherWhat(Check check) {
        StructureSearch x = Made.twos(3);
        for (int what : new int[] {-1, 4, Integer.MIN_VALUE, Integer.MAX_VALUE}) {
            check.same("18: what " + what, x.kin(Made.arc(0, 1), what), BAD);
        }
        for (int what = 0; what < 4; what++) {
            check.same("18: comes back, what " + what, x.kin(Made.arcs(0, 1, 1, 0), what), BAD);
            check.same("18: a name that is not there, what " + what, x.kin(Made.arc(0, 3), what), BAD);
        }
    }
}
