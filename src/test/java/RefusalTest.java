/**
 * "REFUSALS are answers, of several the first one in this order (or as a call tells): BAD (a number is none, or out of
 * its bounds), STATE, FULL. What is refused changes nothing." Each refused call of each promise, in several states.
 */
public final class RefusalTest {
    private static final int STATE = StructureSearch.STATE, FULL = StructureSearch.FULL;
    private static final int LEAST = Integer.MIN_VALUE, GREATEST = Integer.MAX_VALUE;
    private static final int TWO_PARENTS = Made.arcs(0, 2, 1, 2);

    public static void main(String[] args) {
        Check check = new Check();
        Refused[] states = {
            new Refused(check, "nothing there", StructureSearch::new),
            new Refused(check, "one name", () -> Made.names(3)),
            new Refused(check, "four names", () -> Made.names(2, 3, 2, 3)),
            new Refused(check, "four names and rows", RefusalTest::someRows),
            new Refused(check, "five names", () -> Made.names(3, 2, 3, 2, 3)),
            new Refused(check, "five names and sixteen rows", RefusalTest::allRows)};
        int[] names = {0, 1, 4, 4, 5, 5};
        int[] rows = {0, 0, 0, 3, 0, 16};
        for (int i = 0; i < states.length; i++) {
            name(states[i]);
            dropAndValue(states[i], names[i], rows[i]);
            setAndAbout(states[i], names[i]);
            noGraphs(states[i], names[i]);
            numbers(states[i], names[i]);
            parents(states[i], names[i]);
            shares(states[i], names[i]);
            test(states[i], names[i]);
        }
        nameInOrder(states);
        rowInOrder(states);
        shareInOrder(states);
        notBounded(check);
        check.end();
    }

    private static StructureSearch someRows() {
        StructureSearch x = Made.names(2, 3, 2, 3);
        x.set(0, 5);
        x.set(1, 2);
        x.row(0, 1, 0, 2, 0);
        x.row(1, 2, 0, 2, 0);
        x.row(0, 1, 1, 0, 0);
        return x;
    }

    private static StructureSearch allRows() {
        StructureSearch x = Made.names(3, 2, 3, 2, 3);
        x.set(0, 9);
        x.set(1, 1);
        for (int i = 0; i < 16; i++) x.row(i % 3, i % 2, i / 3 % 3, i / 8, i % 3);
        return x;
    }

    /** 3: "BAD: values is not 2 or 3", whatever else is there. */
    private static void name(Refused state) {
        for (int values : new int[] {LEAST, -1, 0, 1, 4, 5, GREATEST}) state.bad("name(" + values + ")", x -> x.name(values));
    }

    /** 3: "STATE: ROWS are there; FULL: there are five." */
    private static void nameInOrder(Refused[] states) {
        for (int values = 2; values <= 3; values++) {
            int v = values;
            states[3].is("name(" + v + ")", STATE, x -> x.name(v));
            states[4].is("name(" + v + ")", FULL, x -> x.name(v));
            states[5].is("name(" + v + "), STATE before FULL", STATE, x -> x.name(v));
        }
    }

    /** 4: "BAD; STATE: there is no NAME; FULL: 16 are there." */
    private static void rowInOrder(Refused[] states) {
        states[0].is("row of zeros", STATE, x -> x.row(0, 0, 0, 0, 0));
        states[0].is("row that is not looked at", STATE, x -> x.row(-1, 9, LEAST, GREATEST, 3));
        for (int v : new int[] {LEAST, -1, 3, 4, GREATEST}) {
            states[1].bad("row with " + v, x -> x.row(v, 0, 0, 0, 0));
            states[4].bad("row with " + v + " last", x -> x.row(0, 0, 0, 0, v));
            states[5].bad("row with " + v + " first, BAD before FULL", x -> x.row(v, 0, 0, 0, 0));
            states[5].bad("row with " + v + " last, BAD before FULL", x -> x.row(0, 0, 0, 0, v));
        }
        for (int i = 2; i <= 3; i++) {
            Refused state = states[i];
            state.bad("row with 2 of two values at a", x -> x.row(2, 0, 0, 0, 0));
            state.bad("row with 3 of three values at b", x -> x.row(0, 3, 0, 0, 0));
            state.bad("row with 2 of two values at c", x -> x.row(0, 0, 2, 0, 0));
            state.bad("row with 3 of three values at d", x -> x.row(0, 0, 0, 3, 0));
            state.bad("row with -1 at d", x -> x.row(1, 2, 1, -1, 0));
        }
        states[5].is("a seventeenth row", FULL, x -> x.row(2, 1, 2, 1, 2));
    }

    /** 5 and 6: "BAD." */
    private static void dropAndValue(Refused state, int names, int rows) {
        for (int row : new int[] {LEAST, -1, rows, rows + 1, 16, 17, GREATEST}) {
            state.bad("drop(" + row + ")", x -> x.drop(row));
            state.bad("value(" + row + ", 0)", x -> x.value(row, 0));
        }
        for (int name : new int[] {LEAST, -1, names, names + 1, 5, GREATEST}) {
            state.bad("value(0, " + name + ")", x -> x.value(0, name));
        }
    }

    /** 7: "BAD."; 8: "BAD: another number." */
    private static void setAndAbout(Refused state, int names) {
        for (int v : new int[] {LEAST, -1, 0, 10, 11, GREATEST}) state.bad("set(0, " + v + ")", x -> x.set(0, v));
        for (int v : new int[] {LEAST, -1, 5, 6, GREATEST}) state.bad("set(1, " + v + ")", x -> x.set(1, v));
        for (int what : new int[] {LEAST, -1, 2, 3, GREATEST}) {
            state.bad("set(" + what + ", 1)", x -> x.set(what, 1));
            state.bad("set(" + what + ", 4)", x -> x.set(what, 4));
        }
        for (int what : new int[] {LEAST, LEAST + 3, -4, -1, 4 + names, 9, 10, GREATEST}) {
            state.bad("about(" + what + ")", x -> x.about(what));
        }
    }

    /** 10 to 13, 16 to 18: "BAD: no GRAPH". */
    private static void noGraphs(Refused state, int names) {
        int beyond = names < 5 ? Made.arc(0, names) : 1 << 25;
        for (int graph : new int[] {LEAST, -1, 1, 1 << 24, 1 << 25, 1 << 30, Made.arcs(0, 1, 1, 0), beyond, GREATEST}) {
            String told = "(" + graph + ", ..)";
            state.is("isGraph" + told, 0, x -> x.isGraph(graph) ? 1 : 0);
            state.bad("order" + told, x -> x.order(graph, 0));
            state.bad("size" + told, x -> x.size(graph, 0));
            state.bad("word" + told, x -> x.word(graph, 0, 0));
            state.bad("compare" + told, x -> x.compare(graph, 0));
            state.bad("compare(0, " + graph + ")", x -> x.compare(0, graph));
            state.bad("compare with itself" + told, x -> x.compare(graph, graph));
            state.bad("climb" + told, x -> x.climb(graph, 0));
            state.bad("alike" + told, x -> x.alike(graph, 0));
            state.bad("alike(0, " + graph + ")", x -> x.alike(0, graph));
            state.bad("alike with itself" + told, x -> x.alike(graph, graph));
            state.bad("kin" + told, x -> x.kin(graph, 0));
        }
    }

    /** 10: "i is not 0 .. NAMES - 1"; 11: "part is not 0, 1"; 12: "no such WORD"; 16: steps; 18: "another what". */
    private static void numbers(Refused state, int names) {
        for (int i : new int[] {LEAST, -1, names, 5, GREATEST}) state.bad("order(0, " + i + ")", x -> x.order(0, i));
        for (int part : new int[] {LEAST, -1, 2, GREATEST}) {
            state.bad("size(0, " + part + ")", x -> x.size(0, part));
            state.bad("word(0, " + part + ", 0)", x -> x.word(0, part, 0));
        }
        for (int part = 0; part <= 1; part++) {
            int p = part;
            for (int i : new int[] {LEAST, -1, 100, GREATEST}) state.bad("word(0, " + p + ", " + i + ")", x -> x.word(0, p, i));
            state.bad("the word behind the last one, part " + p, x -> x.word(0, p, x.size(0, p)));
        }
        for (int steps : new int[] {LEAST, -1, 31, GREATEST}) state.bad("climb(0, " + steps + ")", x -> x.climb(0, steps));
        for (int what : new int[] {LEAST, -1, 4, GREATEST}) state.bad("kin(0, " + what + ")", x -> x.kin(0, what));
    }

    /** 14: "BAD: no such NAME; of is no SET of NAMES that are there, or has the NAME." */
    private static void parents(Refused state, int names) {
        for (int name : new int[] {LEAST, -1, names, 5, 31, 32, GREATEST}) {
            state.bad("parents(" + name + ", 0)", x -> x.parents(name, 0));
        }
        for (int name = 0; name < names; name++) {
            int n = name;
            state.bad("parents with the name alone " + n, x -> x.parents(n, 1 << n));
            state.bad("parents with all names " + n, x -> x.parents(n, (1 << names) - 1));
            for (int of : new int[] {LEAST, -1, -1 & ~(1 << n), 1 << names, 32, 1 << 30}) {
                state.bad("parents(" + n + ", " + of + ")", x -> x.parents(n, of));
            }
        }
    }

    /** 16: "or one that is not BOUNDED". */
    private static void notBounded(Check check) {
        Refused one = new Refused(check, "most is 1", () -> withMost(1));
        for (int steps : new int[] {0, 1, 30}) one.bad("climb from two parents", x -> x.climb(TWO_PARENTS, steps));
        Refused none = new Refused(check, "most is 0", () -> withMost(0));
        for (int steps : new int[] {0, 1, 30}) none.bad("climb from one parent", x -> x.climb(Made.arc(0, 1), steps));
    }

    private static StructureSearch withMost(int most) {
        StructureSearch x = someRows();
        x.set(1, most);
        return x;
    }

    /** 19: "BAD: no such NAMES, or the same one twice; part"; 20: "BAD: as shareSize()". */
    private static void shares(Refused state, int names) {
        for (int name : new int[] {LEAST, -1, names, 5, GREATEST}) {
            state.bad("shareSize(" + name + ", 0, 0)", x -> x.shareSize(name, 0, 0));
            state.bad("shareSize(0, " + name + ", 0)", x -> x.shareSize(0, name, 0));
            state.bad("shareWord(" + name + ", 0, 0, 0)", x -> x.shareWord(name, 0, 0, 0));
            state.bad("shareWord(0, " + name + ", 0, 0)", x -> x.shareWord(0, name, 0, 0));
        }
        for (int name = 0; name < 5; name++) {
            int n = name;
            state.bad("shareSize of one twice " + n, x -> x.shareSize(n, n, 0));
            state.bad("shareWord of one twice " + n, x -> x.shareWord(n, n, 1, 0));
        }
        for (int part : new int[] {LEAST, -1, 2, GREATEST}) {
            state.bad("shareSize(0, 1, " + part + ")", x -> x.shareSize(0, 1, part));
            state.bad("shareWord(0, 1, " + part + ", 0)", x -> x.shareWord(0, 1, part, 0));
        }
    }

    /** 19: "STATE: there are five NAMES."; 20: "STATE: likewise, else BAD: it has no such WORD." */
    private static void shareInOrder(Refused[] states) {
        for (int part = 0; part <= 1; part++) {
            int p = part;
            for (int i = 4; i <= 5; i++) {
                states[i].is("shareSize of five, part " + p, STATE, x -> x.shareSize(0, 4, p));
                for (int word : new int[] {LEAST, -1, 0, 1000, GREATEST}) {
                    states[i].is("shareWord of five, word " + word, STATE, x -> x.shareWord(4, 3, p, word));
                }
            }
            for (int i = 2; i <= 3; i++) {
                for (int word : new int[] {LEAST, -1, 1000, GREATEST}) {
                    states[i].bad("shareWord, word " + word, x -> x.shareWord(0, 1, p, word));
                }
                states[i].bad("the word of a share behind the last one", x -> x.shareWord(0, 1, p, x.shareSize(0, 1, p)));
            }
        }
    }

    /** 21: "BAD: no such NAMES; two of a, b, c are the same; v is no value of c; part." */
    private static void test(Refused state, int names) {
        for (int name : new int[] {LEAST, -2, -1, names, 5, GREATEST}) {
            state.bad("test with a " + name, x -> x.test(name, 1, -1, 0, 0));
            state.bad("test with b " + name, x -> x.test(0, name, -1, 0, 0));
            if (name != -1) state.bad("test with c " + name, x -> x.test(0, 1, name, 0, 0));
        }
        state.bad("test with a and b the same", x -> x.test(1, 1, -1, 0, 0));
        state.bad("test with a and c the same", x -> x.test(0, 1, 0, 0, 0));
        state.bad("test with b and c the same", x -> x.test(0, 1, 1, 0, 0));
        state.bad("test with all the same", x -> x.test(0, 0, 0, 0, 0));
        for (int v : new int[] {LEAST, -1, 3, GREATEST}) {
            state.bad("test with v " + v, x -> x.test(0, 1, 2, v, 0));
            state.bad("test of b and a with v " + v, x -> x.test(1, 0, 3, v, 1));
        }
        for (int part : new int[] {LEAST, -1, 2, GREATEST}) {
            state.bad("test with part " + part, x -> x.test(0, 1, -1, 0, part));
            state.bad("test of some rows with part " + part, x -> x.test(0, 1, 2, 0, part));
        }
    }
}
