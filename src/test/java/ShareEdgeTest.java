/** The boundary cases of promises 19 and 20, a test for each sentence that names one. */
public final class ShareEdgeTest {
    private static final int BAD = StructureSearch.BAD, STATE = StructureSearch.STATE;

    public static void main(String[] args) {
        Check check = new Check();
        asManyGraphsHaveIt(check);
        onlyBounded(check);
        noWordsOfNothing(check);
        twoNamesAtLeast(check);
        fourNamesAtMost(check);
        noSuchNames(check);
        sameTwice(check);
        noSuchPart(check);
        noSuchWord(check);
        stateBeforeNoSuchWord(check);
        badBeforeState(check);
        changesAreSeen(check);
        eachArc(check);
        longShares(check);
        check.end();
    }

    private static void shareIs(Check check, String when, StructureSearch x, int from, int to, long above, long below) {
        String arc = when + " (" + from + ", " + to + ")";
        check.same("19: words above, " + arc, x.shareSize(from, to, 0), above == 0 ? 0 : 1);
        check.same("19: words below, " + arc, x.shareSize(from, to, 1), 1);
        check.same("20: above, " + arc, x.shareWord(from, to, 0, 0), above == 0 ? BAD : above);
        check.same("20: below, " + arc, x.shareWord(from, to, 1, 0), below);
    }

    private static void sharesAre(Check check, String when, StructureSearch x, int names, long above, long below) {
        for (int from = 0; from < names; from++) {
            for (int to = 0; to < names; to++) {
                if (from != to) shareIs(check, when, x, from, to, above, below);
            }
        }
    }

    /** Without ROWS all FITS are 1: 1 of 3, 8 of 25 and 168 of 543 GRAPHS have an ARC. */
    private static void asManyGraphsHaveIt(Check check) {
        sharesAre(check, "two names", Made.names(2, 3), 2, 1, 3);
        sharesAre(check, "three names", Made.names(2, 3, 2), 3, 8, 25);
        sharesAre(check, "four names", Made.names(2, 3, 2, 3), 4, 56, 181);
    }

    /** Terms: "all BOUNDED GRAPHS". Of four NAMES 125 have one PARENT at most, 443 two, 543 three. */
    private static void onlyBounded(Check check) {
        long[] above = {0, 1, 127, 56, 56};
        long[] below = {1, 5, 443, 181, 181};
        for (int most = 0; most <= 4; most++) {
            StructureSearch x = Made.twos(4);
            x.set(1, most);
            sharesAre(check, "most " + most, x, 4, above[most], below[most]);
        }
        StructureSearch x = Made.twos(4);
        for (int most : new int[] {4, 0, 1, 2, 3}) {
            x.set(1, most);
            shareIs(check, "most changes to " + most, x, 3, 0, above[most], below[most]);
        }
    }

    /** Terms: "0 has no WORDS": with MOST 0 no GRAPH has the ARC, and 0 in least terms is 0/1. */
    private static void noWordsOfNothing(Check check) {
        for (int names = 2; names <= 4; names++) {
            StructureSearch x = Made.rows(Made.twos(names), 16, 1, 1, 1, 1);
            x.set(0, 9);
            x.set(1, 0);
            check.same("19: no words", x.shareSize(0, 1, 0), 0);
            check.same("20: no word 0", x.shareWord(0, 1, 0, 0), BAD);
            check.same("20: no word -1", x.shareWord(0, 1, 0, -1), BAD);
            check.same("19: one word below", x.shareSize(0, 1, 1), 1);
            check.same("20: it is 1", x.shareWord(0, 1, 1, 0), 1);
            check.same("20: no word more", x.shareWord(0, 1, 1, 1), BAD);
        }
    }

    /** 19: "the ARC from one NAME to another one" needs two. */
    private static void twoNamesAtLeast(Check check) {
        for (int names = 0; names <= 1; names++) {
            StructureSearch x = Made.twos(names);
            for (int from = 0; from <= 1; from++) {
                for (int to = 0; to <= 1; to++) {
                    check.same("19: " + names + " names", x.shareSize(from, to, 0), BAD);
                    check.same("20: " + names + " names", x.shareWord(from, to, 1, 0), BAD);
                }
            }
        }
        StructureSearch x = Made.twos(1);
        x.name(2);
        shareIs(check, "a second name", x, 0, 1, 1, 3);
    }

    /** 19: "STATE: there are five NAMES", not four; and after clear() no more. */
    private static void fourNamesAtMost(Check check) {
        StructureSearch x = Made.twos(4);
        shareIs(check, "four", x, 3, 2, 56, 181);
        x.name(2);
        check.same("19: five", x.shareSize(3, 2, 0), STATE);
        check.same("20: five", x.shareWord(3, 2, 0, 0), STATE);
        check.same("19: five, the fifth", x.shareSize(4, 0, 1), STATE);
        check.same("20: five, to the fifth", x.shareWord(0, 4, 1, 0), STATE);
        x.row(0, 0, 0, 0, 0);
        check.same("19: five and a row", x.shareSize(3, 2, 0), STATE);
        x.clear();
        for (int i = 0; i < 4; i++) x.name(3);
        shareIs(check, "four again", x, 3, 2, 56, 181);
    }

    /** 19: "BAD: no such NAMES"; 20: "as shareSize()". */
    private static void noSuchNames(Check check) {
        for (int names = 2; names <= 5; names++) {
            StructureSearch x = Made.twos(names);
            for (int name : new int[] {-1, names, names + 1, Integer.MIN_VALUE, Integer.MAX_VALUE}) {
                check.same("19: from " + name + " of " + names, x.shareSize(name, 0, 0), BAD);
                check.same("19: to " + name + " of " + names, x.shareSize(0, name, 0), BAD);
                check.same("20: from " + name + " of " + names, x.shareWord(name, 0, 0, 0), BAD);
                check.same("20: to " + name + " of " + names, x.shareWord(0, name, 0, 0), BAD);
            }
        }
    }

    /** 19: "or the same one twice". */
    private static void sameTwice(Check check) {
        for (int names = 1; names <= 5; names++) {
            StructureSearch x = Made.twos(names);
            for (int name = 0; name < names; name++) {
                for (int part = 0; part < 2; part++) {
                    check.same("19: twice " + name, x.shareSize(name, name, part), BAD);
                    check.same("20: twice " + name, x.shareWord(name, name, part, 0), BAD);
                }
            }
        }
    }

    /** 19: "BAD: .. part". */
    private static void noSuchPart(Check check) {
        StructureSearch x = Made.twos(2);
        for (int part : new int[] {-1, 2, 3, Integer.MIN_VALUE, Integer.MAX_VALUE}) {
            check.same("19: part " + part, x.shareSize(0, 1, part), BAD);
            check.same("20: part " + part, x.shareWord(0, 1, part, 0), BAD);
        }
    }

    /** 20: "else BAD: it has no such WORD." */
    private static void noSuchWord(Check check) {
        StructureSearch x = Made.rows(Made.twos(4), 16);
        for (int part = 0; part < 2; part++) {
            int size = x.shareSize(0, 1, part);
            check.holds("19: it has words", size > 0);
            check.holds("20: the last word is not 0", x.shareWord(0, 1, part, size - 1) > 0);
            for (int i : new int[] {-1, size, size + 1, Integer.MIN_VALUE, Integer.MAX_VALUE}) {
                check.same("20: word " + i + " of part " + part, x.shareWord(0, 1, part, i), BAD);
            }
        }
    }

    /** 20: "STATE: likewise, else BAD": with five NAMES no WORD is looked for. */
    private static void stateBeforeNoSuchWord(Check check) {
        StructureSearch x = Made.twos(5);
        for (int i : new int[] {-1, 0, 1, 1000, Integer.MIN_VALUE, Integer.MAX_VALUE}) {
            check.same("20: word " + i, x.shareWord(0, 1, 0, i), STATE);
            check.same("20: word " + i, x.shareWord(4, 0, 1, i), STATE);
        }
    }

    /** 20: "BAD: as shareSize()" comes before STATE. */
    private static void badBeforeState(Check check) {
        StructureSearch x = Made.twos(5);
        check.same("19: from", x.shareSize(5, 0, 0), BAD);
        check.same("19: to", x.shareSize(0, -1, 0), BAD);
        check.same("19: twice", x.shareSize(4, 4, 0), BAD);
        check.same("19: part", x.shareSize(0, 1, 2), BAD);
        check.same("20: from", x.shareWord(-1, 0, 0, 0), BAD);
        check.same("20: to", x.shareWord(0, 5, 0, 0), BAD);
        check.same("20: twice", x.shareWord(0, 0, 0, 0), BAD);
        check.same("20: part", x.shareWord(0, 1, -1, 0), BAD);
    }

    /** A share is told of what is there now: after name, row, drop, set and clear. */
    private static void changesAreSeen(Check check) {
        StructureSearch y = Made.twos(2);
        shareIs(check, "two names", y, 0, 1, 1, 3);
        y.name(3);
        shareIs(check, "three names", y, 0, 1, 8, 25);
        y.name(2);
        shareIs(check, "four names", y, 0, 1, 56, 181);
        y.clear();
        check.same("19: cleared", y.shareSize(0, 1, 0), BAD);
        StructureSearch x = Made.twos(2);
        shareIs(check, "no rows", x, 0, 1, 1, 3);
        Made.rows(x, 2);
        // No arc 9/64, an arc either way 10/64.
        shareIs(check, "two rows", x, 0, 1, 10, 29);
        x.drop(1);
        shareIs(check, "one row", x, 0, 1, 1, 3);
        x.row(0, 1, 0, 0, 0);
        // No arc 3/64, an arc either way 2/64.
        shareIs(check, "two other rows", x, 0, 1, 2, 7);
        x.set(0, 2);
        // No arc 1/3 * 1/6, an arc either way 1/3 * 2 * 2 / (4 * 8).
        shareIs(check, "strength 2", x, 0, 1, 3, 10);
        x.set(1, 0);
        shareIs(check, "most 0", x, 0, 1, 0, 1);
        x.set(1, 1);
        shareIs(check, "most 1", x, 0, 1, 3, 10);
        x.drop(0);
        x.drop(0);
        x.name(3);
        shareIs(check, "a third name", x, 0, 1, 1, 4);
        x.set(1, 2);
        shareIs(check, "most 2", x, 0, 1, 8, 25);
    }

    /** Each ARC has a share of its own, in whatever order they are asked for. */
    private static void eachArc(Check check) {
        StructureSearch x = new StructureSearch();
        Oracle oracle = new Oracle();
        for (int i = 0; i < 3; i++) {
            x.name(2 + i % 2);
            oracle.name(2 + i % 2);
        }
        for (int i = 0; i < 7; i++) {
            x.row(i % 2, i % 4 / 2, i % 2, 0, 0);
            oracle.row(i % 2, i % 4 / 2, i % 2, 0, 0);
        }
        int[][] arcs = {{0, 1}, {0, 2}, {1, 2}, {0, 2}, {2, 0}, {2, 1}, {0, 1}, {1, 0}, {1, 2}, {2, 0}, {1, 0}};
        for (int[] arc : arcs) {
            for (int part = 0; part < 2; part++) {
                check.same("20: each arc", x.shareWord(arc[0], arc[1], part, 0), oracle.shareWord(arc[0], arc[1], part, 0));
            }
        }
        check.holds("20: they differ", x.shareWord(0, 1, 0, 0) != x.shareWord(0, 2, 0, 0));
        check.holds("20: they differ too", x.shareWord(0, 2, 0, 0) != x.shareWord(1, 2, 0, 0));
    }

    /** Shares of many WORDS, each WORD 0 .. 2^32 - 1, the lowest first, against the oracle. */
    private static void longShares(Check check) {
        for (int strength = 1; strength <= 9; strength += 2) {
            StructureSearch x = new StructureSearch();
            Oracle oracle = new Oracle();
            x.set(0, strength);
            oracle.set(0, strength);
            for (int i = 0; i < 4; i++) {
                x.name(3);
                oracle.name(3);
            }
            for (int i = 0; i < 16; i++) {
                int a = i * i % 3;
                int b = i / 5 % 3;
                int c = i % 4 == 0 ? a : b;
                int d = i % 7 / 3;
                x.row(a, b, c, d, 0);
                oracle.row(a, b, c, d, 0);
            }
            for (int part = 0; part < 2; part++) {
                int size = oracle.shareSize(1, 2, part);
                check.holds("19: many words: " + size, size > 3);
                check.same("19: so many words", x.shareSize(1, 2, part), size);
                for (int i = -1; i <= size; i++) {
                    check.same("20: word " + i, x.shareWord(1, 2, part, i), oracle.shareWord(1, 2, part, i));
                }
            }
        }
    }
}
