import java.util.Random;

/** Promises 19 and 20: shareSize, shareWord. */
public final class ShareTest {
    private static final int BAD = StructureSearch.BAD, STATE = StructureSearch.STATE;

    public static void main(String[] args) {
        Check check = new Check();
        withoutRows(check);
        byHand(check);
        refusals(check);
        for (int names = 2; names <= 4; names++) againstOracle(check, names);
        longest(check);
        check.end();
    }

    private static StructureSearch withNames(int names) {
        StructureSearch x = new StructureSearch();
        for (int i = 0; i < names; i++) x.name(2);
        return x;
    }

    private static void shareIs(Check check, StructureSearch x, int from, int to, long above, long below) {
        check.same("19: words above", x.shareSize(from, to, 0), above == 0 ? 0 : 1);
        check.same("19: words below", x.shareSize(from, to, 1), 1);
        check.same("20: above", x.shareWord(from, to, 0, 0), above == 0 ? BAD : above);
        check.same("20: below", x.shareWord(from, to, 1, 0), below);
    }

    /** All fits are 1 then: the share tells how many graphs have the arc. */
    private static void withoutRows(Check check) {
        StructureSearch x = withNames(2);
        shareIs(check, x, 0, 1, 1, 3);
        x.name(3);
        shareIs(check, x, 0, 1, 8, 25);
        shareIs(check, x, 2, 0, 8, 25);
        x.set(1, 1);
        shareIs(check, x, 1, 2, 1, 4);
        x.set(1, 0);
        shareIs(check, x, 1, 2, 0, 1);
        x.set(1, 2);
        shareIs(check, x, 1, 2, 8, 25);
    }

    private static void byHand(Check check) {
        StructureSearch x = withNames(2);
        x.row(0, 0, 0, 0, 0);
        x.row(0, 0, 0, 0, 0);
        // No arc 9/64, an arc either way 10/64.
        shareIs(check, x, 0, 1, 10, 29);
        shareIs(check, x, 1, 0, 10, 29);
        x.drop(0);
        shareIs(check, x, 1, 0, 1, 3);
        x.row(0, 1, 0, 0, 0);
        // No arc 3/64, an arc either way 2/64.
        shareIs(check, x, 0, 1, 2, 7);
        x.set(0, 2);
        // No arc 1/3 * 1/6, an arc either way 1/3 * 2 * 2 / (4 * 8).
        shareIs(check, x, 0, 1, 3, 10);
        x.clear();
        check.same("19: no names any more", x.shareSize(0, 1, 0), BAD);
        x.name(2);
        x.name(2);
        shareIs(check, x, 0, 1, 1, 3);
    }

    private static void refusals(Check check) {
        StructureSearch x = withNames(4);
        for (int name : new int[] {-1, 4, 5, Integer.MIN_VALUE, Integer.MAX_VALUE}) {
            check.same("19: from " + name, x.shareSize(name, 0, 0), BAD);
            check.same("19: to " + name, x.shareSize(0, name, 0), BAD);
            check.same("20: from " + name, x.shareWord(name, 0, 0, 0), BAD);
            check.same("20: to " + name, x.shareWord(0, name, 0, 0), BAD);
        }
        for (int name = 0; name < 4; name++) {
            check.same("19: the same one twice", x.shareSize(name, name, 0), BAD);
            check.same("20: the same one twice", x.shareWord(name, name, 0, 0), BAD);
        }
        for (int part : new int[] {-1, 2, Integer.MIN_VALUE, Integer.MAX_VALUE}) {
            check.same("19: part " + part, x.shareSize(0, 1, part), BAD);
            check.same("20: part " + part, x.shareWord(0, 1, part, 0), BAD);
        }
        for (int i : new int[] {-1, 1, 1000, Integer.MIN_VALUE, Integer.MAX_VALUE}) {
            check.same("20: no word " + i, x.shareWord(0, 1, 1, i), BAD);
        }
        StructureSearch y = withNames(5);
        check.same("19: five names", y.shareSize(0, 4, 0), STATE);
        check.same("20: five names", y.shareWord(0, 4, 0, 0), STATE);
        check.same("20: STATE goes before that there is no such word", y.shareWord(0, 4, 0, -1), STATE);
        check.same("19: BAD goes before STATE", y.shareSize(0, 5, 0), BAD);
        check.same("19: BAD goes before STATE", y.shareSize(3, 3, 0), BAD);
        check.same("19: BAD goes before STATE", y.shareSize(0, 1, 2), BAD);
        check.same("20: BAD goes before STATE", y.shareWord(0, -1, 0, 0), BAD);
        check.same("20: BAD goes before STATE", y.shareWord(0, 1, -1, 0), BAD);
        check.same("19: one name", withNames(1).shareSize(0, 1, 0), BAD);
        check.same("19: no name", withNames(0).shareSize(0, 1, 0), BAD);
    }

    private static void againstOracle(Check check, int names) {
        for (int run = 0; run < 12; run++) {
            for (int from = 0; from < names; from++) {
                for (int to = 0; to < names; to++) {
                    if (from != to) sameShares(check, new Random(10 * names + run), names, from, to);
                }
            }
        }
    }

    /** An object for each arc: so it stays within its 512 calls. */
    private static void sameShares(Check check, Random random, int names, int from, int to) {
        StructureSearch x = new StructureSearch();
        Oracle oracle = new Oracle();
        int strength = 1 + random.nextInt(9);
        x.set(0, strength);
        oracle.set(0, strength);
        for (int i = 0; i < names; i++) {
            int values = 2 + random.nextInt(2);
            x.name(values);
            oracle.name(values);
        }
        int rows = random.nextInt(17);
        for (int i = 0; i < rows; i++) {
            int v = random.nextInt(2);
            int w = random.nextInt(oracle.about(5));
            int b = random.nextInt(2) == 0 ? v : w;
            x.row(v, b, w % 2, v, 0);
            oracle.row(v, b, w % 2, v, 0);
        }
        for (int most = 0; most <= 4; most++) {
            x.set(1, most);
            oracle.set(1, most);
            sameShare(check, x, oracle, from, to);
        }
    }

    private static void sameShare(Check check, StructureSearch x, Oracle oracle, int from, int to) {
        for (int part = 0; part < 2; part++) {
            int size = oracle.shareSize(from, to, part);
            check.same("19: size", x.shareSize(from, to, part), size);
            for (int i = 0; i <= size; i++) {
                check.same("20: word " + i, x.shareWord(from, to, part, i), oracle.shareWord(from, to, part, i));
            }
        }
    }

    /** Long numbers: four names of three values, sixteen rows that go their own ways. */
    private static void longest(Check check) {
        for (int strength = 1; strength <= 9; strength++) {
            StructureSearch x = new StructureSearch();
            Oracle oracle = new Oracle();
            x.set(0, strength);
            oracle.set(0, strength);
            for (int i = 0; i < 4; i++) {
                x.name(3);
                oracle.name(3);
            }
            Random random = new Random(strength);
            for (int i = 0; i < 16; i++) {
                int a = strength % 2 == 0 ? 0 : random.nextInt(3);
                int b = strength % 3 == 0 ? a : random.nextInt(9) / 4;
                x.row(a, b, i % 3, random.nextInt(9) / 8, 0);
                oracle.row(a, b, i % 3, x.value(i, 3), 0);
            }
            sameShare(check, x, oracle, 0, 1);
            sameShare(check, x, oracle, 3, 2);
        }
    }
}
