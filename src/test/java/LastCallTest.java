import java.util.Random;

/** "An object is used for at most 512 calls after it has been made": the 512th is still answered as the first one is. */
public final class LastCallTest {
    private static final int KINDS = 16;

    private final Check check;
    private final Random random;
    private final StructureSearch x = new StructureSearch();
    private final Oracle oracle = new Oracle();
    private int calls = 0;

    private LastCallTest(Check check, int seed) {
        this.check = check;
        random = new Random(seed);
    }

    public static void main(String[] args) {
        Check check = new Check();
        for (int last = 0; last < KINDS; last++) {
            for (int names = 3; names <= 5; names++) new LastCallTest(check, 10 * last + names).go(names, last);
        }
        check.end();
    }

    private void go(int names, int last) {
        for (int i = 0; i < names; i++) {
            int values = 2 + random.nextInt(2);
            same("name", x.name(values), oracle.name(values));
        }
        while (calls < Made.MOST_CALLS - 1) change();
        ask(last);
        check.same("all calls are used", calls, Made.MOST_CALLS);
    }

    private void same(String what, long got, long want) {
        calls++;
        check.same("call " + calls + ": " + what, got, want);
    }

    /** One call, mostly one that changes something. */
    private void change() {
        int dice = random.nextInt(24);
        if (dice < 13) row();
        else if (dice < 20) drop();
        else if (dice < 22) set();
        else ask(random.nextInt(KINDS));
    }

    private void row() {
        int[] v = new int[5];
        for (int i = 0; i < 5; i++) v[i] = i > 0 && random.nextInt(3) > 0 ? v[i - 1] % 2 : random.nextInt(3);
        same("row", x.row(v[0], v[1], v[2], v[3], v[4]), oracle.row(v[0], v[1], v[2], v[3], v[4]));
    }

    private void drop() {
        int row = random.nextInt(17) - 1;
        same("drop", x.drop(row), oracle.drop(row));
    }

    private void set() {
        int what = random.nextInt(2);
        int v = random.nextInt(what == 0 ? 11 : 6);
        same("set", x.set(what, v), oracle.set(what, v));
    }

    /** One call. */
    private void ask(int kind) {
        int[] graphs = oracle.graphs();
        int graph = graphs[random.nextInt(graphs.length)];
        int other = graphs[random.nextInt(graphs.length)];
        switch (kind) {
            case 0 -> same("about", x.about(1), oracle.about(1));
            case 1 -> same("value", x.value(0, 2), oracle.value(0, 2));
            case 2 -> same("isGraph", x.isGraph(graph) ? 1 : 0, 1);
            case 3 -> same("order", x.order(graph, 2), oracle.order(graph, 2));
            case 4 -> same("size", x.size(graph, 1), oracle.size(graph, 1));
            case 5 -> same("word", x.word(graph, 0, 0), oracle.word(graph, 0, 0));
            case 6 -> same("compare", x.compare(graph, other), oracle.compare(graph, other));
            case 7 -> same("parents", x.parents(2, 3), oracle.parents(2, 3));
            case 8 -> same("best", x.best(), oracle.best());
            case 9 -> same("climb", x.climb(0, 30), oracle.climb(0, 30));
            case 10 -> same("alike", x.alike(graph, other), oracle.alike(graph, other));
            case 11 -> same("kin", x.kin(graph, 0), oracle.kin(graph, 0));
            case 12 -> same("shareSize", x.shareSize(0, 1, 1), oracle.shareSize(0, 1, 1));
            case 13 -> same("shareWord", x.shareWord(1, 0, 0, 0), oracle.shareWord(1, 0, 0, 0));
            case 14 -> same("test", x.test(0, 1, 2, 1, 0), oracle.test(0, 1, 2, 1, 0));
            default -> row();
        }
    }
}
