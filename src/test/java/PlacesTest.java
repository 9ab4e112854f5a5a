/** Promises 16 to 18: the places of save. */
public final class PlacesTest {
    private static final Due DUE = new Due();
    private static final int[] BAD_PLACES = {-1, 4, 5, Integer.MIN_VALUE, Integer.MAX_VALUE};

    public static void main(String[] args) {
        save();
        load();
        loadUnderConditions();
        onlyRowsAreSaved();
        differences();
        DUE.end();
    }

    private static void save() {
        StatementTables t = new StatementTables();
        for (int s : BAD_PLACES) {
            DUE.due("16: bad place", t.save(s), StatementTables.BAD_ARG);
        }
        DUE.due("16: no row", t.save(0), 0);
        for (int s = 1; s < 4; s++) {
            t.insert(s, s, 0, 0);
            DUE.due("16: number of rows", t.save(s), s);
        }
        for (int s = 0; s < 4; s++) {
            DUE.due("16: each place its own", t.load(s), s);
        }
        t.load(0);
        t.insert(9, 0, 0, 0);
        DUE.due("16: what was there is lost", t.save(3), 1);
        t.load(1);
        DUE.due("16: what was there is lost", t.load(3), 1);
        DUE.due("16: what was there is lost", t.value(9, 0), 9);
        DUE.due("16: what was there is lost", t.value(3, 0), StatementTables.NONE);
    }

    private static void load() {
        StatementTables t = new StatementTables();
        for (int s : BAD_PLACES) {
            DUE.due("17: bad place", t.load(s), StatementTables.BAD_ARG);
        }
        t.insert(1, 2, 3, 4);
        DUE.due("17: nothing saved", t.load(2), StatementTables.NONE);
        DUE.due("17: refused, the rows stay", t.rows(), 1);
        t.insert(-50, 5, 6, 7);
        t.save(2);
        t.delete(0);
        t.insert(8, 0, 0, 0);
        DUE.due("17: number of rows", t.load(2), 2);
        DUE.due("17: rows", t.rows(), 2);
        DUE.due("17: a", t.value(1, 1), 2);
        DUE.due("17: b", t.value(1, 2), 3);
        DUE.due("17: c", t.value(-50, 3), 7);
        DUE.due("17: key", t.value(-50, 0), -50);
        DUE.due("17: others are gone", t.value(8, 0), StatementTables.NONE);
        t.delete(0);
        DUE.due("17: the place keeps its rows", t.load(2), 2);
    }

    private static void loadUnderConditions() {
        StatementTables t = new StatementTables();
        t.insert(1, 1, 0, 5);
        t.insert(2, 1, 0, 5);
        t.save(0);
        Terms.express(t, 1, "key 2 =");
        t.delete(1);
        t.save(1);
        t.unique(1);
        Terms.express(t, 2, "a 1 = not");
        Terms.express(t, 3, "8");
        t.update(0, 1, 3);
        t.check(2);
        t.save(3);
        DUE.due("17: NOT_UNIQUE before UNCHECKED", t.load(0), StatementTables.NOT_UNIQUE);
        DUE.due("17: UNCHECKED", t.load(1), StatementTables.UNCHECKED);
        DUE.due("17: NONE though check is on", t.load(2), StatementTables.NONE);
        DUE.due("17: refused, nothing changed", t.differences(3), 0);
        DUE.due("17: refused, the places stay", t.differences(0), 2);
        t.unique(0);
        DUE.due("17: UNCHECKED", t.load(0), StatementTables.UNCHECKED);
        t.uncheck();
        DUE.due("17: no condition", t.load(0), 2);
        DUE.due("17: load does not turn unique on", t.insert(3, 0, 0, 5), 3);
    }

    private static void onlyRowsAreSaved() {
        StatementTables t = new StatementTables();
        t.save(0);
        t.parameter(0, 7);
        Terms.express(t, 1, "p0");
        t.unique(1);
        t.check(1);
        t.leaf(0, 1);
        DUE.due("17: no row", t.load(0), 0);
        DUE.due("17: the stack stays", t.leaf(0, 1), 2);
        t.insert(1, 0, 0, 0);
        DUE.due("17: parameter and expression stay", t.sum(0, 1), 7);
        DUE.due("17: unique stays", t.insert(2, 0, 0, 0), StatementTables.NOT_UNIQUE);
        DUE.due("17: check stays", t.uncheck(), 1);
    }

    private static void differences() {
        StatementTables t = new StatementTables();
        for (int s : BAD_PLACES) {
            DUE.due("18: bad place", t.differences(s), StatementTables.BAD_ARG);
        }
        DUE.due("18: nothing saved", t.differences(0), StatementTables.NONE);
        t.save(0);
        DUE.due("18: both empty", t.differences(0), 0);
        t.insert(-50, 1, 2, 3);
        t.insert(50, 1, 2, 3);
        t.insert(0, 1, 2, 3);
        DUE.due("18: only in the table", t.differences(0), 3);
        t.save(1);
        DUE.due("18: the same", t.differences(1), 0);
        for (int col = 1; col < 4; col++) {
            t.load(1);
            Terms.express(t, 1, "key 0 =");
            Terms.express(t, 2, "9");
            t.update(1, col, 2);
            DUE.due("18: another value in column " + col, t.differences(1), 1);
        }
        t.load(1);
        t.update(1, 0, 2);
        DUE.due("18: another key", t.differences(1), 2);
        t.load(0);
        DUE.due("18: only in the place", t.differences(1), 3);
        t.insert(50, 1, 2, 4);
        t.insert(7, 0, 0, 0);
        DUE.due("18: all kinds", t.differences(1), 4);
        DUE.due("18: another place", t.differences(0), 2);
        DUE.due("18: still nothing saved", t.differences(2), StatementTables.NONE);
    }
}
