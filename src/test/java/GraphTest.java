/** Promises 9, 10, 17 and 18: isGraph, order, alike, kin. */
public final class GraphTest {
    private static final int BAD = StructureSearch.BAD;
    private static final int[] NO_GRAPHS = {-1, Integer.MIN_VALUE, Integer.MAX_VALUE, 1, 64, 4096, 1 << 18, 1 << 24,
        1 << 25, 1 << 30, 2 | 32, 2 | 128 | 1024};

    public static void main(String[] args) {
        Check check = new Check();
        isGraph(check);
        order(check);
        alike(check);
        kin(check);
        check.end();
    }

    private static StructureSearch withNames(int names) {
        StructureSearch x = new StructureSearch();
        for (int i = 0; i < names; i++) x.name(2 + i % 2);
        return x;
    }

    private static int arc(int from, int to) {
        return 1 << 5 * from + to;
    }

    private static void isGraph(Check check) {
        int[] due = {1, 1, 3, 25, 543, 29281};
        for (int names = 0; names <= 5; names++) {
            StructureSearch x = withNames(names);
            check.holds("9: no arcs", x.isGraph(0));
            int places = 0;
            for (int p = 0; p < 5; p++) {
                for (int c = 0; c < 5; c++) {
                    boolean there = p < names && c < names && p != c;
                    if (there) places |= arc(p, c);
                    check.same("9: arc " + p + " to " + c, x.isGraph(arc(p, c)) ? 1 : 0, there ? 1 : 0);
                }
            }
            check.same("9: graphs of " + names, countGraphs(names, places), due[names]);
        }
        StructureSearch x = withNames(5);
        for (int graph : NO_GRAPHS) check.holds("9: no graph " + graph, !x.isGraph(graph));
        int round = arc(0, 1) | arc(1, 2) | arc(2, 3) | arc(3, 4);
        check.holds("9: a way", x.isGraph(round));
        check.holds("9: a way that comes back", !x.isGraph(round | arc(4, 0)));
    }

    /** How many of the numbers with bits at these places alone are graphs, each object within its 512 calls. */
    private static int countGraphs(int names, int places) {
        StructureSearch x = withNames(names);
        int calls = names;
        int count = 0;
        int graph = 0;
        do {
            if (calls == Made.MOST_CALLS) {
                x = withNames(names);
                calls = names;
            }
            if (x.isGraph(graph)) count++;
            calls++;
            graph = graph - places & places;
        } while (graph != 0);
        return count;
    }

    private static void order(Check check) {
        StructureSearch x = withNames(5);
        orderIs(check, x, 0, 0, 1, 2, 3, 4);
        orderIs(check, x, arc(4, 0), 1, 2, 3, 4, 0);
        orderIs(check, x, arc(2, 0), 1, 2, 0, 3, 4);
        orderIs(check, x, arc(4, 3) | arc(3, 2) | arc(2, 1) | arc(1, 0), 4, 3, 2, 1, 0);
        orderIs(check, x, arc(3, 0) | arc(1, 0) | arc(0, 2), 1, 3, 0, 2, 4);
        check.same("10: -1", x.order(0, -1), BAD);
        check.same("10: 5", x.order(0, 5), BAD);
        check.same("10: least", x.order(0, Integer.MIN_VALUE), BAD);
        check.same("10: greatest", x.order(0, Integer.MAX_VALUE), BAD);
        for (int graph : NO_GRAPHS) check.same("10: no graph", x.order(graph, 0), BAD);
        check.same("10: no names", withNames(0).order(0, 0), BAD);
        check.same("10: one name", withNames(1).order(0, 0), 0);
        check.same("10: two names, i = 2", withNames(2).order(0, 2), BAD);
    }

    private static void orderIs(Check check, StructureSearch x, int graph, int... due) {
        for (int i = 0; i < due.length; i++) check.same("10: order(" + graph + ", " + i + ")", x.order(graph, i), due[i]);
    }

    private static void alike(Check check) {
        StructureSearch x = withNames(3);
        int chain = arc(0, 1) | arc(1, 2);
        int back = arc(2, 1) | arc(1, 0);
        int fork = arc(1, 0) | arc(1, 2);
        int meeting = arc(0, 1) | arc(2, 1);
        check.same("17: chain and back", x.alike(chain, back), 1);
        check.same("17: chain and fork", x.alike(chain, fork), 1);
        check.same("17: fork and back", x.alike(fork, back), 1);
        check.same("17: chain and meeting", x.alike(chain, meeting), 0);
        check.same("17: meeting and fork", x.alike(meeting, fork), 0);
        check.same("17: meeting and itself", x.alike(meeting, meeting), 1);
        check.same("17: other pairs", x.alike(chain, arc(0, 1) | arc(0, 2)), 0);
        check.same("17: more pairs", x.alike(chain, chain | arc(0, 2)), 0);
        check.same("17: no meeting if tied", x.alike(meeting | arc(0, 2), chain | arc(0, 2)), 1);
        check.same("17: no arcs", x.alike(0, 0), 1);
        check.same("17: no arcs and one", x.alike(0, arc(2, 1)), 0);
        for (int graph : NO_GRAPHS) {
            check.same("17: no graph first", x.alike(graph, 0), BAD);
            check.same("17: no graph second", x.alike(0, graph), BAD);
            check.same("17: no graphs", x.alike(graph, graph), BAD);
        }
        StructureSearch y = withNames(5);
        int one = arc(0, 4) | arc(1, 4) | arc(2, 3) | arc(3, 4);
        int other = arc(0, 4) | arc(1, 4) | arc(3, 2) | arc(3, 4);
        check.same("17: five names, alike", y.alike(one, other), 1);
        check.same("17: five names, one meeting less", y.alike(one, arc(4, 0) | arc(1, 4) | arc(2, 3) | arc(3, 4)), 0);
        check.same("17: no names", withNames(0).alike(0, 0), 1);
    }

    private static void kin(Check check) {
        StructureSearch x = withNames(3);
        int chain = arc(0, 1) | arc(1, 2);
        int back = arc(2, 1) | arc(1, 0);
        int fork = arc(1, 0) | arc(1, 2);
        int meeting = arc(0, 1) | arc(2, 1);
        for (int graph : new int[] {chain, back, fork}) kinIs(check, x, graph, 3, chain, back, 0);
        kinIs(check, x, meeting, 1, meeting, meeting, meeting);
        kinIs(check, x, 0, 1, 0, 0, 0);
        x.set(1, 0);
        kinIs(check, x, back, 3, chain, back, 0);
        StructureSearch y = withNames(5);
        int led = arc(0, 2) | arc(1, 2) | arc(2, 3);
        kinIs(check, y, led, 1, led, led, led);
        int partly = led | arc(4, 0);
        kinIs(check, y, partly, 2, led | arc(0, 4), partly, led);
        int up = 0;
        int down = 0;
        for (int a = 0; a < 5; a++) {
            for (int b = a + 1; b < 5; b++) {
                up |= arc(a, b);
                down |= arc(b, a);
            }
        }
        kinIs(check, y, up, 120, up, down, 0);
        kinIs(check, y, down, 120, up, down, 0);
        check.same("18: what -1", y.kin(0, -1), BAD);
        check.same("18: what 4", y.kin(0, 4), BAD);
        for (int graph : NO_GRAPHS) check.same("18: no graph", y.kin(graph, 0), BAD);
        kinIs(check, withNames(0), 0, 1, 0, 0, 0);
    }

    private static void kinIs(Check check, StructureSearch x, int graph, int... due) {
        for (int what = 0; what < 4; what++) {
            check.same("18: kin(" + graph + ", " + what + ")", x.kin(graph, what), due[what]);
        }
    }
}
