import java.util.ArrayList;
import java.util.List;

/** "What is refused changes nothing": a call that is refused, and what some 130 other calls answer before and after it. */
final class Refused {
    interface Start {
        StructureSearch make();
    }

    interface Call {
        long on(StructureSearch x);
    }

    private final Check check;
    private final String where;
    private final Start start;
    private final List<Long> seenAtStart;

    Refused(Check check, String where, Start start) {
        this.check = check;
        this.where = where;
        this.start = start;
        seenAtStart = seen(start.make());
    }

    /** The call comes first on one object, and on another one when all has been asked for already. */
    void is(String told, long due, Call call) {
        String what = where + ": " + told;
        StructureSearch fresh = start.make();
        check.same(what, call.on(fresh), due);
        unchanged(what, fresh);
        StructureSearch asked = start.make();
        seen(asked);
        check.same(what + ", later", call.on(asked), due);
        unchanged(what + ", later", asked);
    }

    void bad(String told, Call call) {
        is(told, StructureSearch.BAD, call);
    }

    private void unchanged(String what, StructureSearch x) {
        List<Long> seen = seen(x);
        check.same(what + ": so many answers after it", seen.size(), seenAtStart.size());
        for (int i = 0; i < Math.min(seen.size(), seenAtStart.size()); i++) {
            check.same(what + ": answer " + i + " after it", seen.get(i), seenAtStart.get(i));
        }
    }

    /** Some 130 calls at most, so that an object can be looked at twice within its 512. */
    private static List<Long> seen(StructureSearch x) {
        List<Long> seen = new ArrayList<>();
        int names = x.about(0);
        int rows = x.about(1);
        for (int what = 0; what < 10; what++) seen.add((long) x.about(what));
        for (int row = 0; row < rows; row++) {
            for (int name = 0; name < names; name++) seen.add((long) x.value(row, name));
        }
        for (int graph : new int[] {0, Made.arc(0, 1), Made.upward(3)}) seeFit(seen, x, graph);
        seen.add((long) x.compare(0, Made.arc(0, 1)));
        for (int name = 0; name < names; name++) {
            seen.add((long) x.parents(name, (1 << names) - 1 & ~(1 << name)));
        }
        seen.add((long) x.best());
        seen.add((long) x.climb(0, 30));
        seen.add((long) x.kin(Made.arc(0, 1), 0));
        for (int part = 0; part < 2; part++) {
            seen.add((long) x.shareSize(0, 1, part));
            seen.add(x.shareWord(0, 1, part, 0));
            seen.add(x.test(0, 1, -1, 0, part));
        }
        return seen;
    }

    private static void seeFit(List<Long> seen, StructureSearch x, int graph) {
        seen.add(x.isGraph(graph) ? 1L : 0L);
        for (int part = 0; part < 2; part++) {
            seen.add((long) x.size(graph, part));
            seen.add(x.word(graph, part, 0));
            seen.add(x.word(graph, part, 1));
        }
    }
}
