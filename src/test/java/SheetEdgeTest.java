/** The boundary cases of promises 1 to 8, a test for each sentence that names one. */
public final class SheetEdgeTest {
    private static final int BAD = StructureSearch.BAD, STATE = StructureSearch.STATE, FULL = StructureSearch.FULL;

    public static void main(String[] args) {
        Check check = new Check();
        newObject(check);
        objectsApart(check);
        clearWithoutRows(check);
        clearWithAllRows(check);
        clearEverything(check);
        nameValues(check);
        nameNumbers(check);
        nameWithRows(check);
        nameAmongFive(check);
        rowNumbers(check);
        rowValues(check);
        rowOthers(check);
        rowWithoutNames(check);
        rowAmongSixteen(check);
        dropFirstAndLast(check);
        dropOnly(check);
        dropNone(check);
        dropFromSixteen(check);
        valueEdges(check);
        setStrength(check);
        setMost(check);
        setOther(check);
        aboutNames(check);
        aboutOther(check);
        check.end();
    }

    private static void asAtFirst(Check check, String when, StructureSearch x) {
        int[] due = {0, 0, 1, 4, BAD, BAD, BAD, BAD, BAD, BAD};
        for (int what = 0; what < due.length; what++) check.same(when + ": about " + what, x.about(what), due[what]);
    }

    /** 1: "No NAMES, no ROWS; STRENGTH 1, MOST 4." */
    private static void newObject(Check check) {
        asAtFirst(check, "1: new", new StructureSearch());
        check.same("1: no row to go", new StructureSearch().drop(0), BAD);
        check.same("1: strength was", new StructureSearch().set(0, 9), 1);
        check.same("1: most was", new StructureSearch().set(1, 0), 4);
        // STRENGTH is at work: 1 * 3 / (2 * 4); so is MOST: four parents are found.
        check.same("1: strength 1", Made.rows(Made.names(2), 2, 0).word(0, 1, 0), 8);
        StructureSearch x = Made.rows(Made.rows(Made.twos(5), 8), 8, 1, 1, 1, 1, 1);
        check.same("1: most 4", x.parents(4, 15), 15);
    }

    /** 1: what one object is told no other one knows. */
    private static void objectsApart(Check check) {
        StructureSearch x = Made.rows(Made.names(3, 3), 2, 2, 2);
        x.set(0, 7);
        x.set(1, 0);
        asAtFirst(check, "1: another one", new StructureSearch());
        StructureSearch y = Made.rows(Made.names(2), 1, 1);
        y.clear();
        check.same("1: rows of the first one", x.about(1), 2);
        check.same("1: strength of the first one", x.about(2), 7);
        check.same("1: value of the first one", x.value(1, 1), 2);
    }

    /** 2: "how many ROWS there were" is 0 without any. */
    private static void clearWithoutRows(Check check) {
        StructureSearch x = new StructureSearch();
        check.same("2: nothing there", x.clear(), 0);
        check.same("2: nothing there, again", x.clear(), 0);
        x.name(2);
        check.same("2: names alone", x.clear(), 0);
        asAtFirst(check, "2: names alone", x);
        x.name(2);
        x.row(1, 0, 0, 0, 0);
        x.drop(0);
        check.same("2: a row that went", x.clear(), 0);
        asAtFirst(check, "2: a row that went", x);
    }

    /** 2: "how many ROWS there were" is 16 at most. */
    private static void clearWithAllRows(Check check) {
        StructureSearch x = Made.rows(Made.twos(5), 16);
        x.row(0, 0, 0, 0, 0);
        check.same("2: sixteen", x.clear(), 16);
        asAtFirst(check, "2: sixteen", x);
        check.same("2: none any more", x.clear(), 0);
        check.same("2: one", clearedAfter(1), 1);
        check.same("2: fifteen", clearedAfter(15), 15);
    }

    private static int clearedAfter(int rows) {
        return Made.rows(Made.twos(1), rows).clear();
    }

    /** 2: "All as at first": nothing that was reckoned, set or told is left. */
    private static void clearEverything(Check check) {
        StructureSearch x = Made.rows(Made.names(3, 3, 3, 3), 3, 2, 2, 2, 2);
        x.set(0, 9);
        x.set(1, 1);
        x.best();
        x.size(Made.arc(0, 1), 0);
        x.shareSize(0, 1, 0);
        check.holds("2: a fit before", x.word(0, 1, 0) > 1);
        check.same("2: three", x.clear(), 3);
        check.same("2: the fit of nothing", x.word(0, 1, 0), 1);
        asAtFirst(check, "2: all", x);
        check.same("2: the best of nothing", x.best(), 0);
        check.holds("2: no arcs", !x.isGraph(Made.arc(0, 1)));
        check.same("2: the first name again", x.name(2), 0);
        check.same("2: the second name again", x.name(2), 1);
        check.same("2: their values", x.about(4) * 10 + x.about(5), 22);
        check.same("2: a share above", x.shareWord(0, 1, 0, 0), 1);
        check.same("2: a share below", x.shareWord(0, 1, 1, 0), 3);
        check.same("2: the first row again", x.row(1, 0, 0, 0, 0), 0);
        check.same("2: its first value", x.value(0, 0), 1);
        check.same("2: its second value", x.value(0, 1), 0);
        check.same("2: a fit with strength 1", x.word(0, 1, 0), 4);
    }

    /** 3: "BAD: values is not 2 or 3". */
    private static void nameValues(Check check) {
        StructureSearch x = new StructureSearch();
        check.same("3: one value", x.name(1), BAD);
        check.same("3: four values", x.name(4), BAD);
        check.same("3: no value", x.name(0), BAD);
        check.same("3: none has come", x.about(0), 0);
        check.same("3: two values", x.name(2), 0);
        check.same("3: three values", x.name(3), 1);
        check.same("3: two are known", x.about(4), 2);
        check.same("3: three are known", x.about(5), 3);
    }

    /** 3: "A NAME more: its number", 0 to 4. */
    private static void nameNumbers(Check check) {
        StructureSearch x = new StructureSearch();
        for (int i = 0; i < 5; i++) {
            check.same("3: name " + i, x.name(3 - i % 2), i);
            check.same("3: so many", x.about(0), i + 1);
        }
    }

    /** 3: "STATE: ROWS are there", one or sixteen, and no more when the last one is gone. */
    private static void nameWithRows(Check check) {
        StructureSearch x = Made.rows(Made.twos(1), 1);
        check.same("3: a row is there", x.name(2), STATE);
        check.same("3: BAD before STATE", x.name(4), BAD);
        Made.rows(x, 15);
        check.same("3: sixteen are there", x.name(3), STATE);
        check.same("3: one name still", x.about(0), 1);
        for (int i = 0; i < 15; i++) x.drop(0);
        check.same("3: one is left", x.name(3), STATE);
        x.drop(0);
        check.same("3: none is left", x.name(3), 1);
        check.same("3: it has three values", x.about(5), 3);
    }

    /** 3: "FULL: there are five", not four; with ROWS STATE comes first. */
    private static void nameAmongFive(Check check) {
        StructureSearch x = Made.twos(4);
        check.same("3: the fifth", x.name(3), 4);
        check.same("3: a sixth", x.name(3), FULL);
        check.same("3: a sixth, again", x.name(2), FULL);
        check.same("3: BAD before FULL", x.name(1), BAD);
        check.same("3: five", x.about(0), 5);
        check.same("3: no values of a sixth", x.about(9), BAD);
        Made.rows(x, 1);
        check.same("3: STATE before FULL", x.name(2), STATE);
        check.same("3: BAD before both", x.name(5), BAD);
        x.clear();
        check.same("3: as at first", x.name(2), 0);
    }

    /** 4: "A ROW more .. its number", 0 to 15. */
    private static void rowNumbers(Check check) {
        StructureSearch x = Made.names(2, 3);
        for (int i = 0; i < 16; i++) {
            check.same("4: row " + i, x.row(i % 2, i % 3, 0, 0, 0), i);
            check.same("4: so many", x.about(1), i + 1);
        }
        for (int i = 0; i < 16; i++) {
            check.same("4: first of " + i, x.value(i, 0), i % 2);
            check.same("4: second of " + i, x.value(i, 1), i % 3);
        }
    }

    /** 4: "BAD": a value that its NAME does not have, at each place; the greatest one it has may come. */
    private static void rowValues(Check check) {
        for (int place = 0; place < 5; place++) {
            for (int values = 2; values <= 3; values++) {
                int[] all = {2, 2, 2, 2, 2};
                all[place] = values;
                StructureSearch x = Made.names(all);
                check.same("4: below 0 at " + place, rowWith(x, place, -1), BAD);
                check.same("4: as many as there are at " + place, rowWith(x, place, values), BAD);
                check.same("4: far above at " + place, rowWith(x, place, Integer.MAX_VALUE), BAD);
                check.same("4: far below at " + place, rowWith(x, place, Integer.MIN_VALUE), BAD);
                check.same("4: none has come", x.about(1), 0);
                check.same("4: the greatest at " + place, rowWith(x, place, values - 1), 0);
                check.same("4: it is kept", x.value(0, place), values - 1);
                check.same("4: the least at " + place, rowWith(x, place, 0), 1);
                check.same("4: it is kept too", x.value(1, place), 0);
            }
        }
    }

    private static int rowWith(StructureSearch x, int place, int v) {
        int[] row = new int[5];
        row[place] = v;
        return x.row(row[0], row[1], row[2], row[3], row[4]);
    }

    /** 4: "others are not looked at". */
    private static void rowOthers(Check check) {
        for (int names = 1; names <= 5; names++) {
            StructureSearch x = Made.twos(names);
            int[] row = {1, 1, 1, 1, 1};
            for (int i = names; i < 5; i++) row[i] = i % 2 == 0 ? Integer.MIN_VALUE : Integer.MAX_VALUE;
            check.same("4: wild others", x.row(row[0], row[1], row[2], row[3], row[4]), 0);
            for (int i = 0; i < names; i++) check.same("4: its values", x.value(0, i), 1);
            check.same("4: no value more", x.value(0, names), BAD);
            check.same("4: like a row of tame others", Made.rows(x, 1, 1, 1, 1, 1, 1).word(0, 0, 0), power(3, names));
        }
    }

    private static long power(int base, int often) {
        long power = 1;
        for (int i = 0; i < often; i++) power *= base;
        return power;
    }

    /** 4: "STATE: there is no NAME". */
    private static void rowWithoutNames(Check check) {
        StructureSearch x = new StructureSearch();
        check.same("4: no name", x.row(0, 0, 0, 0, 0), STATE);
        check.same("4: no name, and none is looked at", x.row(-1, 3, 9, -9, 7), STATE);
        check.same("4: no row", x.about(1), 0);
        x.name(2);
        x.row(0, 0, 0, 0, 0);
        x.clear();
        check.same("4: no name any more", x.row(0, 0, 0, 0, 0), STATE);
    }

    /** 4: "FULL: 16 are there", not 15; when one is gone another one may come. */
    private static void rowAmongSixteen(Check check) {
        StructureSearch x = Made.rows(Made.names(3), 15, 1);
        check.same("4: the sixteenth", x.row(2, 0, 0, 0, 0), 15);
        check.same("4: a seventeenth", x.row(0, 0, 0, 0, 0), FULL);
        check.same("4: BAD before FULL", x.row(3, 0, 0, 0, 0), BAD);
        check.same("4: sixteen", x.about(1), 16);
        check.same("4: the last one as it was", x.value(15, 0), 2);
        check.same("4: no seventeenth", x.value(16, 0), BAD);
        check.same("4: one goes", x.drop(3), 15);
        check.same("4: one comes", x.row(0, 0, 0, 0, 0), 15);
        check.same("4: FULL again", x.row(0, 0, 0, 0, 0), FULL);
    }

    /** 5: "the numbers of those behind it are one less", of those before it they stay. */
    private static void dropFirstAndLast(Check check) {
        StructureSearch x = Made.names(3);
        for (int i = 0; i < 6; i++) x.row(i / 2, 0, 0, 0, 0);
        check.same("5: the last", x.drop(5), 5);
        valuesAre(check, x, 0, 0, 1, 1, 2);
        check.same("5: the first", x.drop(0), 4);
        valuesAre(check, x, 0, 1, 1, 2);
        check.same("5: within", x.drop(1), 3);
        valuesAre(check, x, 0, 1, 2);
        check.same("5: a row comes behind", x.row(0, 0, 0, 0, 0), 3);
        valuesAre(check, x, 0, 1, 2, 0);
    }

    private static void valuesAre(Check check, StructureSearch x, int... due) {
        check.same("5: rows", x.about(1), due.length);
        for (int i = 0; i < due.length; i++) check.same("5: row " + i, x.value(i, 0), due[i]);
        check.same("5: no row more", x.value(due.length, 0), BAD);
    }

    /** 5: "how many are left" is 0 when the only one goes. */
    private static void dropOnly(Check check) {
        StructureSearch x = Made.rows(Made.names(2, 2), 1, 1, 1);
        check.same("5: the only one", x.drop(0), 0);
        check.same("5: none is left", x.drop(0), BAD);
        check.same("5: the names stay", x.about(0), 2);
        check.same("5: the fit is 1", x.word(0, 1, 0), 1);
        check.same("5: a row comes first again", x.row(0, 1, 0, 0, 0), 0);
    }

    /** 5: "BAD": no such ROW. */
    private static void dropNone(Check check) {
        check.same("5: nothing there", new StructureSearch().drop(0), BAD);
        check.same("5: no rows", Made.twos(2).drop(0), BAD);
        StructureSearch x = Made.rows(Made.twos(1), 3);
        for (int row : new int[] {-1, 3, 4, 16, Integer.MIN_VALUE, Integer.MAX_VALUE}) {
            check.same("5: row " + row, x.drop(row), BAD);
        }
        check.same("5: three stay", x.about(1), 3);
    }

    /** 5: of all sixteen any one may go. */
    private static void dropFromSixteen(Check check) {
        for (int gone = 0; gone < 16; gone++) {
            StructureSearch x = Made.names(3, 3, 2);
            for (int i = 0; i < 16; i++) x.row(i % 3, i / 3 % 3, i / 9, 0, 0);
            check.same("5: fifteen are left", x.drop(gone), 15);
            for (int i = 0; i < 15; i++) {
                int was = i < gone ? i : i + 1;
                int code = x.value(i, 0) + 3 * x.value(i, 1) + 9 * x.value(i, 2);
                check.same("5: row " + i + " without " + gone, code, was);
            }
            check.same("5: no sixteenth", x.value(15, 0), BAD);
        }
    }

    /** 6: "BAD": no such ROW, no such NAME. */
    private static void valueEdges(Check check) {
        check.same("6: nothing there", new StructureSearch().value(0, 0), BAD);
        check.same("6: no rows", Made.twos(1).value(0, 0), BAD);
        StructureSearch x = Made.names(3, 2, 3, 2, 3);
        for (int i = 0; i < 16; i++) x.row(i % 3, i % 2, (i + 1) % 3, (i + 1) % 2, (i + 2) % 3);
        check.same("6: first name of the first row", x.value(0, 0), 0);
        check.same("6: last name of the first row", x.value(0, 4), 2);
        check.same("6: first name of the last row", x.value(15, 0), 0);
        check.same("6: last name of the last row", x.value(15, 4), 2);
        check.same("6: second name of the last row", x.value(15, 1), 1);
        for (int row : new int[] {-1, 16, Integer.MIN_VALUE, Integer.MAX_VALUE}) {
            check.same("6: row " + row, x.value(row, 0), BAD);
        }
        for (int name : new int[] {-1, 5, Integer.MIN_VALUE, Integer.MAX_VALUE}) {
            check.same("6: name " + name, x.value(0, name), BAD);
        }
        check.same("6: neither", x.value(16, 5), BAD);
    }

    /** 7: STRENGTH is 1 .. 9; "what it was", also when it stays the same. */
    private static void setStrength(Check check) {
        StructureSearch x = new StructureSearch();
        check.same("7: 0", x.set(0, 0), BAD);
        check.same("7: 10", x.set(0, 10), BAD);
        check.same("7: -1", x.set(0, -1), BAD);
        check.same("7: it stays", x.about(2), 1);
        check.same("7: 1, as it is", x.set(0, 1), 1);
        check.same("7: 9", x.set(0, 9), 1);
        check.same("7: 9 again", x.set(0, 9), 9);
        check.same("7: 1 again", x.set(0, 1), 9);
        check.same("7: it is 1", x.about(2), 1);
        check.same("7: most stays", x.about(3), 4);
    }

    /** 7: MOST is 0 .. 4. */
    private static void setMost(Check check) {
        StructureSearch x = new StructureSearch();
        check.same("7: -1", x.set(1, -1), BAD);
        check.same("7: 5", x.set(1, 5), BAD);
        check.same("7: it stays", x.about(3), 4);
        check.same("7: 4, as it is", x.set(1, 4), 4);
        check.same("7: 0", x.set(1, 0), 4);
        check.same("7: 0 again", x.set(1, 0), 0);
        check.same("7: 4 again", x.set(1, 4), 0);
        check.same("7: it is 4", x.about(3), 4);
        check.same("7: strength stays", x.about(2), 1);
    }

    /** 7: "BAD": what is neither 0 nor 1; with ROWS there both may be set. */
    private static void setOther(Check check) {
        StructureSearch x = Made.rows(Made.twos(5), 16);
        for (int what : new int[] {-1, 2, 3, Integer.MIN_VALUE, Integer.MAX_VALUE}) {
            for (int v = 0; v <= 9; v++) check.same("7: what " + what, x.set(what, v), BAD);
        }
        check.same("7: strength with rows", x.set(0, 2), 1);
        check.same("7: most with rows", x.set(1, 2), 4);
    }

    /** 8: "4 and on how many VALUES the NAMES 0 and on have", as far as there are NAMES. */
    private static void aboutNames(Check check) {
        StructureSearch x = new StructureSearch();
        for (int names = 0; names <= 5; names++) {
            check.same("8: names", x.about(0), names);
            for (int i = 0; i < 7; i++) check.same("8: values of " + i, x.about(4 + i), i < names ? 2 + i % 2 : BAD);
            x.name(2 + names % 2);
        }
    }

    /** 8: "BAD: another number." */
    private static void aboutOther(Check check) {
        StructureSearch x = Made.rows(Made.names(3, 3, 3, 3, 3), 16, 2, 2, 2, 2, 2);
        x.set(0, 9);
        x.set(1, 0);
        int[] due = {5, 16, 9, 0, 3, 3, 3, 3, 3, BAD};
        for (int what = 0; what < due.length; what++) check.same("8: about " + what, x.about(what), due[what]);
        for (int what : new int[] {-1, -4, 10, 1000, Integer.MIN_VALUE, Integer.MIN_VALUE + 4, Integer.MAX_VALUE}) {
            check.same("8: about " + what, x.about(what), BAD);
        }
    }
}
