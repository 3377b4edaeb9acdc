/** Objects to ask, made ready, and graphs told by their arcs. */
final class Made {
    /** So many calls an object is used for; what later ones answer is free. */
    static final int MOST_CALLS = 512;

    private Made() {
    }

    /** A new object with names of so many values each. */
    static StructureSearch names(int... values) {
        StructureSearch x = new StructureSearch();
        for (int v : values) x.name(v);
        return x;
    }

    /** A new object with so many names of two values each. */
    static StructureSearch twos(int names) {
        StructureSearch x = new StructureSearch();
        for (int i = 0; i < names; i++) x.name(2);
        return x;
    }

    /** The same row so often; values that are not told are 0. */
    static StructureSearch rows(StructureSearch x, int often, int... values) {
        int[] v = new int[5];
        System.arraycopy(values, 0, v, 0, values.length);
        for (int i = 0; i < often; i++) x.row(v[0], v[1], v[2], v[3], v[4]);
        return x;
    }

    static int arc(int from, int to) {
        return 1 << 5 * from + to;
    }

    /** From the first name to the second one, from the third one to the fourth one and on. */
    static int arcs(int... ends) {
        int graph = 0;
        for (int i = 0; i + 1 < ends.length; i += 2) graph |= arc(ends[i], ends[i + 1]);
        return graph;
    }

    /** From each of so many names to each higher one. */
    static int upward(int names) {
        int graph = 0;
        for (int a = 0; a < names; a++) {
            for (int b = a + 1; b < names; b++) graph |= arc(a, b);
        }
        return graph;
    }
}
