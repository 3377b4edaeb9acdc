/** Promises 1 to 8: a new object, clear, name, row, drop, value, set, about. */
public final class SheetTest {
    private static final int BAD = StructureSearch.BAD, STATE = StructureSearch.STATE, FULL = StructureSearch.FULL;
    private static final int[] WILD = {Integer.MIN_VALUE, Integer.MAX_VALUE, -2, 1000000};

    public static void main(String[] args) {
        Check check = new Check();
        newObject(check);
        clear(check);
        name(check);
        row(check);
        drop(check);
        value(check);
        set(check);
        about(check);
        check.end();
    }

    private static void asAtFirst(Check check, StructureSearch x) {
        check.same("1: names", x.about(0), 0);
        check.same("1: rows", x.about(1), 0);
        check.same("1: strength", x.about(2), 1);
        check.same("1: most", x.about(3), 4);
        check.same("1: values of no name", x.about(4), BAD);
    }

    private static void newObject(Check check) {
        asAtFirst(check, new StructureSearch());
        check.same("BAD", BAD, -1);
        check.same("STATE", STATE, -2);
        check.same("FULL", FULL, -3);
    }

    private static void clear(Check check) {
        StructureSearch x = new StructureSearch();
        check.same("2: nothing there", x.clear(), 0);
        x.name(2);
        x.name(3);
        x.row(1, 2, 0, 0, 0);
        x.row(1, 2, 0, 0, 0);
        x.set(0, 5);
        x.set(1, 2);
        // 5 * 7 / (10 * 12) and 5 * 8 / (15 * 18).
        check.same("2: word before", x.word(0, 1, 0), 162);
        check.same("2: share before", x.shareSize(0, 1, 0), 1);
        check.same("2: two rows", x.clear(), 2);
        asAtFirst(check, x);
        check.same("2: no row is left", x.value(0, 0), BAD);
        check.same("2: again", x.clear(), 0);
        check.same("2: a name may come", x.name(3), 0);
        check.same("2: its values", x.about(4), 3);
        check.same("2: a row may come", x.row(2, 9, 9, 9, 9), 0);
        check.same("2: fits are new", x.word(0, 1, 0), 3);
        check.same("2: no share is left", x.shareSize(0, 1, 0), BAD);
    }

    private static void name(Check check) {
        StructureSearch x = new StructureSearch();
        for (int values : WILD) check.same("3: name " + values, x.name(values), BAD);
        for (int values = -1; values <= 1; values++) check.same("3: name " + values, x.name(values), BAD);
        check.same("3: name 4", x.name(4), BAD);
        check.same("3: none has come", x.about(0), 0);
        for (int i = 0; i < 5; i++) check.same("3: name " + i, x.name(2 + i % 2), i);
        check.same("3: five are there", x.name(2), FULL);
        check.same("3: BAD goes before FULL", x.name(4), BAD);
        check.same("3: five stay", x.about(0), 5);
        for (int i = 0; i < 5; i++) check.same("3: values of " + i, x.about(4 + i), 2 + i % 2);
        x.row(0, 0, 0, 0, 0);
        check.same("3: STATE goes before FULL", x.name(2), STATE);
        check.same("3: BAD goes before STATE", x.name(1), BAD);
        StructureSearch y = new StructureSearch();
        y.name(2);
        y.row(1, 0, 0, 0, 0);
        check.same("3: a row is there", y.name(3), STATE);
        y.drop(0);
        check.same("3: none is there", y.name(3), 1);
    }

    private static void row(Check check) {
        StructureSearch x = new StructureSearch();
        check.same("4: no name", x.row(0, 0, 0, 0, 0), STATE);
        check.same("4: no name, wild values", x.row(-1, 7, 7, 7, 7), STATE);
        x.name(2);
        check.same("4: others are not looked at", x.row(1, -9, 9, Integer.MAX_VALUE, Integer.MIN_VALUE), 0);
        check.same("4: value 2 of two", x.row(2, 0, 0, 0, 0), BAD);
        check.same("4: value -1", x.row(-1, 0, 0, 0, 0), BAD);
        StructureSearch y = new StructureSearch();
        for (int i = 0; i < 5; i++) y.name(i == 2 ? 2 : 3);
        check.same("4: a", y.row(3, 0, 0, 0, 0), BAD);
        check.same("4: b", y.row(0, -1, 0, 0, 0), BAD);
        check.same("4: c", y.row(0, 0, 2, 0, 0), BAD);
        check.same("4: d", y.row(0, 0, 0, 3, 0), BAD);
        check.same("4: e", y.row(0, 0, 0, 0, 3), BAD);
        check.same("4: none has come", y.about(1), 0);
        for (int i = 0; i < 16; i++) check.same("4: row " + i, y.row(i % 3, 1, i % 2, 2, (i + 1) % 3), i);
        check.same("4: sixteen are there", y.row(0, 0, 0, 0, 0), FULL);
        check.same("4: BAD goes before FULL", y.row(0, 0, 0, 0, 3), BAD);
        check.same("4: sixteen stay", y.about(1), 16);
        for (int i = 0; i < 16; i++) {
            check.same("4: a of " + i, y.value(i, 0), i % 3);
            check.same("4: b of " + i, y.value(i, 1), 1);
            check.same("4: c of " + i, y.value(i, 2), i % 2);
            check.same("4: d of " + i, y.value(i, 3), 2);
            check.same("4: e of " + i, y.value(i, 4), (i + 1) % 3);
        }
    }

    private static void drop(Check check) {
        StructureSearch x = new StructureSearch();
        check.same("5: no rows", x.drop(0), BAD);
        x.name(3);
        x.name(2);
        for (int i = 0; i < 16; i++) x.row(i % 3, i % 2, 0, 0, 0);
        for (int row : WILD) check.same("5: row " + row, x.drop(row), BAD);
        check.same("5: row -1", x.drop(-1), BAD);
        check.same("5: row 16", x.drop(16), BAD);
        check.same("5: the last one", x.drop(15), 15);
        check.same("5: it is gone", x.drop(15), BAD);
        check.same("5: the first one", x.drop(0), 14);
        for (int i = 0; i < 14; i++) check.same("5: row behind " + i, x.value(i, 0), (i + 1) % 3);
        check.same("5: one within", x.drop(4), 13);
        for (int i = 0; i < 13; i++) {
            int was = i < 4 ? i + 1 : i + 2;
            check.same("5: first of " + i, x.value(i, 0), was % 3);
            check.same("5: second of " + i, x.value(i, 1), was % 2);
        }
        check.same("5: a row comes behind", x.row(2, 0, 0, 0, 0), 13);
        for (int left = 13; left >= 0; left--) check.same("5: all go", x.drop(0), left);
        check.same("5: names stay", x.about(0), 2);
        check.same("5: the fit without rows", x.word(0, 1, 0), 1);
    }

    private static void value(Check check) {
        StructureSearch x = new StructureSearch();
        check.same("6: nothing there", x.value(0, 0), BAD);
        x.name(3);
        x.name(2);
        check.same("6: no row", x.value(0, 0), BAD);
        x.row(2, 1, 0, 0, 0);
        check.same("6: first", x.value(0, 0), 2);
        check.same("6: second", x.value(0, 1), 1);
        check.same("6: no such name", x.value(0, 2), BAD);
        check.same("6: name -1", x.value(0, -1), BAD);
        check.same("6: no such row", x.value(1, 0), BAD);
        check.same("6: row -1", x.value(-1, 0), BAD);
        for (int wild : WILD) {
            check.same("6: row " + wild, x.value(wild, 0), BAD);
            check.same("6: name " + wild, x.value(0, wild), BAD);
        }
    }

    private static void set(Check check) {
        StructureSearch x = new StructureSearch();
        int before = 1;
        for (int v = 1; v <= 9; v++) {
            check.same("7: strength " + v, x.set(0, v), before);
            check.same("7: strength is " + v, x.about(2), v);
            before = v;
        }
        before = 4;
        for (int v = 0; v <= 4; v++) {
            check.same("7: most " + v, x.set(1, v), before);
            check.same("7: most is " + v, x.about(3), v);
            before = v;
        }
        check.same("7: strength 0", x.set(0, 0), BAD);
        check.same("7: strength 10", x.set(0, 10), BAD);
        check.same("7: most -1", x.set(1, -1), BAD);
        check.same("7: most 5", x.set(1, 5), BAD);
        check.same("7: what -1", x.set(-1, 1), BAD);
        check.same("7: what 2", x.set(2, 1), BAD);
        for (int wild : WILD) {
            check.same("7: what " + wild, x.set(wild, 1), BAD);
            check.same("7: strength " + wild, x.set(0, wild), BAD);
            check.same("7: most " + wild, x.set(1, wild), BAD);
        }
        check.same("7: strength stays", x.about(2), 9);
        check.same("7: most stays", x.about(3), 4);
    }

    private static void about(Check check) {
        StructureSearch x = new StructureSearch();
        x.name(3);
        x.name(2);
        x.row(0, 0, 0, 0, 0);
        x.set(0, 7);
        x.set(1, 3);
        int[] due = {2, 1, 7, 3, 3, 2, BAD, BAD, BAD, BAD};
        for (int what = 0; what < due.length; what++) check.same("8: about " + what, x.about(what), due[what]);
        check.same("8: about -1", x.about(-1), BAD);
        for (int wild : WILD) check.same("8: about " + wild, x.about(wild), BAD);
    }
}
