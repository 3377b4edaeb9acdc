import java.util.Random;

/** Promises 1 to 21: runs of calls by chance (always the same ones), each answer against the oracle's. */
public final class RandomRunsTest {
    private static final int RUNS = 260;
    // A turn takes some forty calls at most, and no object is asked more than 512 times.
    private static final int TURN = 80;

    private final Check check;
    private final Random random;
    private final StructureSearch x = new StructureSearch();
    private final Oracle oracle = new Oracle();
    private final int run;
    private final int kind;
    private int calls = 0;

    private RandomRunsTest(Check check, int run) {
        this.check = check;
        this.run = run;
        random = new Random(1000 + run);
        kind = random.nextInt(4);
    }

    public static void main(String[] args) {
        Check check = new Check();
        for (int run = 0; run < RUNS; run++) new RandomRunsTest(check, run).go();
        check.end();
    }

    private void go() {
        int names = random.nextInt(6);
        for (int i = 0; i < names; i++) name();
        int rows = random.nextInt(18);
        for (int i = 0; i < rows; i++) row();
        if (random.nextInt(2) == 0) set();
        while (calls < Made.MOST_CALLS - TURN) call(random.nextInt(100));
        check.holds("no more than 512 calls", calls <= Made.MOST_CALLS);
    }

    private void call(int dice) {
        if (dice < 1 && random.nextInt(4) == 0) same("clear()", x.clear(), oracle.clear());
        else if (dice < 5) name();
        else if (dice < 16) row();
        else if (dice < 20) drop();
        else if (dice < 24) look();
        else if (dice < 28) set();
        else if (dice < 36) graphs();
        else if (dice < 52) fits();
        else if (dice < 60) parents();
        else if (dice < 63) same("best()", x.best(), oracle.best());
        else if (dice < 68) climb();
        else if (dice < 76) kin();
        else if (dice < 88) share();
        else test();
    }

    private void same(String call, long got, long want) {
        calls++;
        check.same("run " + run + ": " + call, got, want);
    }

    private void name() {
        int values = random.nextInt(12) == 0 ? random.nextInt(6) - 1 : kind == 0 ? 2 : kind == 1 ? 3 : 2 + random.nextInt(2);
        same("name(" + values + ")", x.name(values), oracle.name(values));
    }

    private void row() {
        int[] v = new int[5];
        int first = random.nextInt(3);
        for (int i = 0; i < 5; i++) {
            int values = oracle.about(4 + i);
            // Names that often go together make graphs with arcs the better ones.
            if (values < 0) v[i] = random.nextInt(9) - 4;
            else v[i] = random.nextInt(3) > 0 ? first % values : random.nextInt(values);
            if (random.nextInt(60) == 0) v[i] = random.nextInt(6) - 2;
        }
        same("row(..)", x.row(v[0], v[1], v[2], v[3], v[4]), oracle.row(v[0], v[1], v[2], v[3], v[4]));
    }

    private void drop() {
        int row = random.nextInt(oracle.about(1) + 2) - 1;
        same("drop(" + row + ")", x.drop(row), oracle.drop(row));
    }

    private void look() {
        int row = random.nextInt(oracle.about(1) + 2) - 1;
        int name = random.nextInt(7) - 1;
        int what = random.nextInt(13) - 2;
        same("value(" + row + ", " + name + ")", x.value(row, name), oracle.value(row, name));
        same("about(" + what + ")", x.about(what), oracle.about(what));
    }

    private void set() {
        int what = random.nextInt(10) == 0 ? random.nextInt(5) - 1 : random.nextInt(2);
        int v = what == 1 ? random.nextInt(7) - 1 : random.nextInt(12) - 1;
        same("set(" + what + ", " + v + ")", x.set(what, v), oracle.set(what, v));
    }

    private int graph() {
        int dice = random.nextInt(12);
        if (dice == 0) return random.nextInt();
        if (dice == 1) return random.nextInt(1 << 25);
        if (dice == 2) return 1 << random.nextInt(25) | 1 << random.nextInt(25);
        int[] all = oracle.graphs();
        return all[random.nextInt(all.length)];
    }

    private void graphs() {
        int graph = graph();
        int i = random.nextInt(7) - 1;
        same("isGraph(" + graph + ")", x.isGraph(graph) ? 1 : 0, oracle.isGraph(graph) ? 1 : 0);
        same("order(" + graph + ", " + i + ")", x.order(graph, i), oracle.order(graph, i));
    }

    private void fits() {
        int graph = graph();
        int other = graph();
        int part = random.nextInt(16) == 0 ? random.nextInt(5) - 2 : random.nextInt(2);
        int size = oracle.size(graph, part);
        same("size(" + graph + ", " + part + ")", x.size(graph, part), size);
        for (int i = -1; i <= size; i++) {
            same("word(" + graph + ", " + part + ", " + i + ")", x.word(graph, part, i), oracle.word(graph, part, i));
        }
        same("compare(" + graph + ", " + other + ")", x.compare(graph, other), oracle.compare(graph, other));
    }

    private void parents() {
        int name = random.nextInt(7) - 1;
        int of = random.nextInt(10) == 0 ? random.nextInt(100) - 30 : random.nextInt(1 << oracle.about(0));
        if (random.nextInt(6) > 0 && name >= 0) of &= ~(1 << name);
        same("parents(" + name + ", " + of + ")", x.parents(name, of), oracle.parents(name, of));
    }

    private void climb() {
        int graph = random.nextInt(3) == 0 ? 0 : graph();
        int steps = random.nextInt(3) == 0 ? random.nextInt(34) - 2 : random.nextInt(5);
        same("climb(" + graph + ", " + steps + ")", x.climb(graph, steps), oracle.climb(graph, steps));
    }

    private void kin() {
        int graph = graph();
        int what = random.nextInt(6) - 1;
        int other = random.nextInt(2) == 0 ? graph() : oracle.kin(graph, 1 + random.nextInt(2));
        same("kin(" + graph + ", " + what + ")", x.kin(graph, what), oracle.kin(graph, what));
        same("alike(" + graph + ", " + other + ")", x.alike(graph, other), oracle.alike(graph, other));
    }

    private void share() {
        int from = random.nextInt(oracle.about(0) + 1) - (random.nextInt(8) == 0 ? 1 : 0);
        int to = random.nextInt(oracle.about(0) + 1) - (random.nextInt(8) == 0 ? 1 : 0);
        int part = random.nextInt(16) == 0 ? random.nextInt(5) - 2 : random.nextInt(2);
        int size = oracle.shareSize(from, to, part);
        String arc = from + ", " + to + ", " + part;
        same("shareSize(" + arc + ")", x.shareSize(from, to, part), size);
        for (int i = -1; i <= Math.max(size, 0); i += 1 + Math.max(size, 0) / 5) {
            same("shareWord(" + arc + ", " + i + ")", x.shareWord(from, to, part, i), oracle.shareWord(from, to, part, i));
        }
        same("shareWord(" + arc + ", end)", x.shareWord(from, to, part, size), oracle.shareWord(from, to, part, size));
    }

    private void test() {
        int names = oracle.about(0);
        int a = random.nextInt(names + 2) - (random.nextInt(8) == 0 ? 1 : 0);
        int b = random.nextInt(names + 2) - (random.nextInt(8) == 0 ? 1 : 0);
        int c = random.nextInt(2) == 0 ? -1 : random.nextInt(names + 3) - 2;
        int v = random.nextInt(8) == 0 ? random.nextInt(7) - 2 : random.nextInt(3);
        int part = random.nextInt(16) == 0 ? random.nextInt(5) - 2 : random.nextInt(2);
        String call = "test(" + a + ", " + b + ", " + c + ", " + v + ", " + part + ")";
        same(call, x.test(a, b, c, v, part), oracle.test(a, b, c, v, part));
    }
}
