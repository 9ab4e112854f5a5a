/** Promises 9 to 12, and of promise 26 what is about statements. */
public final class StatementsTest {
    private static final Due DUE = new Due();
    private static final int MAX = Integer.MAX_VALUE;
    private static final int MIN = Integer.MIN_VALUE;

    public static void main(String[] args) {
        insert();
        insertOrder();
        delete();
        deleteTestsNoCondition();
        update();
        updateKeys();
        updateSeesRowsBefore();
        updateOrder();
        copy();
        copyLimits();
        copyOrder();
        lowestAndHighestKey();
        badExpressions();
        uncheckedForUnchangedRows();
        DUE.end();
    }

    private static StatementTables table(int... keys) {
        StatementTables t = new StatementTables();
        for (int k : keys) {
            t.insert(k, 10 * k, 0, 100 + k);
        }
        return t;
    }

    /** That the refused call before changed nothing since save(3). */
    private static void unchanged(String what, StatementTables t) {
        DUE.due(what + ", nothing changed", t.differences(3), 0);
    }

    private static void insert() {
        StatementTables t = new StatementTables();
        DUE.due("9: lowest key", t.insert(-50, MIN, MAX, 3), 1);
        DUE.due("9: highest key", t.insert(50, 4, 5, 6), 2);
        DUE.due("9: a", t.value(-50, 1), MIN);
        DUE.due("9: b", t.value(-50, 2), MAX);
        DUE.due("9: c", t.value(-50, 3), 3);
        t.save(3);
        for (int k : new int[] {-51, 51, MIN, MAX, -50, 50}) {
            DUE.due("9: bad key " + k, t.insert(k, 0, 0, 0), StatementTables.BAD_KEY);
        }
        unchanged("9: bad key", t);
        for (int k = -19; k < 19; k++) {
            t.insert(k, 0, 0, k);
        }
        DUE.due("9: 40 rows", t.rows(), 40);
        DUE.due("9: 41st row", t.insert(30, 0, 0, 30), StatementTables.FULL);
        DUE.due("9: still 40 rows", t.rows(), 40);
        DUE.due("9: BAD_KEY before FULL", t.insert(51, 0, 0, 0), StatementTables.BAD_KEY);
        DUE.due("9: BAD_KEY before FULL", t.insert(50, 0, 0, 0), StatementTables.BAD_KEY);
    }

    private static void insertOrder() {
        StatementTables t = table(1, 2);
        t.unique(1);
        Terms.express(t, 1, "a -1 = not");
        t.check(1);
        t.save(3);
        DUE.due("9: BAD_KEY first", t.insert(1, -1, 0, 101), StatementTables.BAD_KEY);
        DUE.due("9: NOT_UNIQUE then", t.insert(3, -1, 0, 101), StatementTables.NOT_UNIQUE);
        DUE.due("9: UNCHECKED then", t.insert(3, -1, 0, 103), StatementTables.UNCHECKED);
        unchanged("9: refused", t);
        DUE.due("9: good", t.insert(3, 0, 0, 103), 3);
        for (int k = 4; k <= 40; k++) {
            t.insert(k, 0, 0, 100 + k);
        }
        DUE.due("9: FULL before NOT_UNIQUE", t.insert(41, 0, 0, 101), StatementTables.FULL);
        DUE.due("9: FULL before UNCHECKED", t.insert(41, -1, 0, 141), StatementTables.FULL);
    }

    private static void delete() {
        StatementTables t = table(-2, -1, 0, 1, 2);
        Terms.express(t, 1, "key 1 <");
        Terms.express(t, 2, "5 key /");
        t.save(3);
        DUE.due("10: fault for one row", t.delete(2), StatementTables.FAULT);
        unchanged("10: fault", t);
        DUE.due("10: how many", t.delete(1), 3);
        DUE.due("10: rows left", t.rows(), 2);
        DUE.due("10: row left", t.value(1, 1), 10);
        DUE.due("10: row left", t.value(2, 1), 20);
        DUE.due("10: row gone", t.value(0, 0), StatementTables.NONE);
        DUE.due("10: none meets", t.delete(1), 0);
        DUE.due("10: the fault's row is gone", t.delete(2), 2);
        DUE.due("10: no row is left", t.rows(), 0);
        DUE.due("10: no row", t.delete(0), 0);
        DUE.due("10: the key is free", t.insert(1, 0, 0, 0), 1);
    }

    private static void deleteTestsNoCondition() {
        StatementTables t = table(1, 2, 3);
        Terms.express(t, 1, "key p0 < not");
        Terms.express(t, 2, "key 3 =");
        t.unique(1);
        t.check(1);
        t.parameter(0, 99);
        DUE.due("26: delete leaves rows that do not meet the check", t.delete(2), 1);
        DUE.due("26: rows", t.rows(), 2);
    }

    private static void update() {
        StatementTables t = table(1, 2, 3);
        Terms.express(t, 1, "key 1 = not");
        Terms.express(t, 2, "a 1 +");
        DUE.due("11: a", t.update(1, 1, 2), 2);
        DUE.due("11: b", t.update(1, 2, 2), 2);
        DUE.due("11: c", t.update(1, 3, 2), 2);
        DUE.due("11: row that does not meet w", t.value(1, 1), 10);
        DUE.due("11: row that does not meet w", t.value(1, 3), 101);
        DUE.due("11: a", t.value(2, 1), 21);
        DUE.due("11: b", t.value(3, 2), 32);
        DUE.due("11: c", t.value(3, 3), 32);
        DUE.due("11: key stays", t.value(3, 0), 3);
        Terms.express(t, 1, "0");
        DUE.due("11: none meets", t.update(1, 1, 2), 0);
        DUE.due("11: none meets", t.value(2, 1), 21);
        Terms.express(t, 3, "p0 p0 *");
        t.parameter(0, 46341);
        DUE.due("11: values wrap", t.update(0, 1, 3), 3);
        DUE.due("11: values wrap", t.value(1, 1), -2147479015);
        DUE.due("11: no row", new StatementTables().update(0, 0, 0), 0);
    }

    private static void updateKeys() {
        StatementTables t = table(-3, 0, 3);
        Terms.express(t, 1, "key neg");
        Terms.express(t, 2, "key 3 +");
        Terms.express(t, 3, "key 0 <");
        Terms.express(t, 4, "p0");
        DUE.due("11: keys swapped", t.update(0, 0, 1), 3);
        DUE.due("11: keys swapped", t.value(-3, 1), 30);
        DUE.due("11: keys swapped", t.value(3, 1), -30);
        DUE.due("11: keys swapped", t.value(3, 3), 97);
        DUE.due("11: keys moved on", t.update(0, 0, 2), 3);
        DUE.due("11: keys moved on", t.value(0, 1), 30);
        DUE.due("11: keys moved on", t.value(6, 1), -30);
        DUE.due("11: old key is gone", t.value(-3, 0), StatementTables.NONE);
        DUE.due("11: column 0 is the new key", t.value(6, 0), 6);
        DUE.due("11: order by the new keys", t.key(0, 2, 0), 6);
        t.insert(-1, 0, 0, 0);
        t.save(3);
        t.parameter(0, 6);
        DUE.due("11: key of a row that stays", t.update(3, 0, 4), StatementTables.BAD_KEY);
        DUE.due("11: all to one key", t.update(0, 0, 4), StatementTables.BAD_KEY);
        for (int k : new int[] {51, -51, MIN, MAX}) {
            t.parameter(0, k);
            DUE.due("11: key out of range", t.update(3, 0, 4), StatementTables.BAD_KEY);
        }
        unchanged("11: refused", t);
        t.parameter(0, 50);
        DUE.due("11: highest key", t.update(3, 0, 4), 1);
        Terms.express(t, 3, "key 50 =");
        t.parameter(0, -50);
        DUE.due("11: lowest key", t.update(3, 0, 4), 1);
        DUE.due("11: lowest key", t.key(0, 0, 0), -50);
    }

    /** e is worked out for the rows as they are before the statement, w too. */
    private static void updateSeesRowsBefore() {
        StatementTables t = new StatementTables();
        Terms.express(t, 1, "key 3 <");
        Terms.express(t, 2, "key 1 +");
        t.insert(1, 5, 0, 0);
        t.insert(2, 6, 0, 0);
        DUE.due("11: each row moves once", t.update(1, 0, 2), 2);
        DUE.due("11: each row moves once", t.value(2, 1), 5);
        DUE.due("11: each row moves once", t.value(3, 1), 6);
        DUE.due("11: each row moves once", t.rows(), 2);
    }

    private static void updateOrder() {
        StatementTables t = table(1, 2, 3);
        t.unique(1);
        Terms.express(t, 1, "b 0 =");
        t.check(1);
        t.save(3);
        Terms.express(t, 2, "key 1 = 7 5 key 3 - / choose");
        Terms.express(t, 3, "key 1 =");
        Terms.express(t, 4, "5 key 3 - /");
        Terms.express(t, 5, "9");
        for (int col : new int[] {-1, 4, MIN, MAX}) {
            DUE.due("11: bad column first", t.update(4, col, 4), StatementTables.BAD_ARG);
        }
        DUE.due("11: FAULT of w", t.update(4, 1, 5), StatementTables.FAULT);
        DUE.due("11: FAULT of e before BAD_KEY", t.update(0, 0, 2), StatementTables.FAULT);
        DUE.due("11: no fault for rows that do not meet w", t.update(3, 0, 2), 1);
        t.load(3);
        DUE.due("11: BAD_KEY", t.update(0, 0, 5), StatementTables.BAD_KEY);
        DUE.due("11: NOT_UNIQUE", t.update(0, 3, 5), StatementTables.NOT_UNIQUE);
        DUE.due("11: UNCHECKED", t.update(3, 2, 5), StatementTables.UNCHECKED);
        unchanged("11: refused", t);
        t.uncheck();
        Terms.express(t, 6, "c 101 = not");
        t.check(6);
        Terms.express(t, 7, "101");
        DUE.due("11: NOT_UNIQUE before UNCHECKED", t.update(0, 3, 7), StatementTables.NOT_UNIQUE);
        t.uncheck();
        Terms.express(t, 7, "key 99 + 5 +");
        DUE.due("11: c all at once", t.update(0, 3, 7), 3);
        Terms.express(t, 7, "99 99 + 14 + c -");
        DUE.due("11: c swapped among rows", t.update(0, 3, 7), 3);
        DUE.due("11: c swapped among rows", t.value(1, 3), 107);
        DUE.due("11: c swapped among rows", t.value(3, 3), 105);
    }

    private static void copy() {
        StatementTables t = table(1, 2, 3);
        Terms.express(t, 1, "key 1 = not");
        Terms.express(t, 2, "key 9 +");
        DUE.due("12: how many", t.copy(1, 2), 2);
        DUE.due("12: rows", t.rows(), 5);
        DUE.due("12: a", t.value(11, 1), 20);
        DUE.due("12: b", t.value(12, 2), 0);
        DUE.due("12: c", t.value(12, 3), 103);
        DUE.due("12: key", t.value(12, 0), 12);
        DUE.due("12: the row itself stays", t.value(2, 3), 102);
        DUE.due("12: not copied", t.value(10, 0), StatementTables.NONE);
        Terms.express(t, 1, "0");
        DUE.due("12: none meets", t.copy(1, 2), 0);
        t.save(3);
        Terms.express(t, 3, "key");
        Terms.express(t, 4, "20");
        Terms.express(t, 5, "key 40 +");
        Terms.express(t, 6, "key 3 = 5 key 3 - / 20 choose");
        DUE.due("12: key of itself", t.copy(0, 3), StatementTables.BAD_KEY);
        DUE.due("12: one key for all", t.copy(0, 4), StatementTables.BAD_KEY);
        DUE.due("12: key out of range", t.copy(0, 5), StatementTables.BAD_KEY);
        DUE.due("12: FAULT of w", t.copy(6, 2), StatementTables.FAULT);
        DUE.due("12: FAULT of e before BAD_KEY", t.copy(0, 6), StatementTables.FAULT);
        unchanged("12: refused", t);
        Terms.express(t, 1, "key 1 =");
        DUE.due("12: no fault for rows that do not meet w", t.copy(1, 6), 1);
        DUE.due("12: no fault for rows that do not meet w", t.value(20, 3), 101);
    }

    private static void copyLimits() {
        StatementTables t = new StatementTables();
        for (int k = 1; k <= 20; k++) {
            t.insert(k, k, 0, 0);
        }
        Terms.express(t, 1, "key 20 +");
        DUE.due("12: to 40 rows", t.copy(0, 1), 20);
        DUE.due("12: 40 rows", t.rows(), 40);
        Terms.express(t, 2, "key 40 =");
        Terms.express(t, 3, "99");
        Terms.express(t, 4, Terms.FAULT);
        DUE.due("12: 41 rows", t.copy(2, 1), StatementTables.FULL);
        DUE.due("12: FULL before BAD_KEY", t.copy(2, 3), StatementTables.FULL);
        DUE.due("12: FAULT before FULL", t.copy(2, 4), StatementTables.FAULT);
        DUE.due("12: still 40 rows", t.rows(), 40);
        Terms.express(t, 5, "0");
        DUE.due("12: none more at 40 rows", t.copy(5, 3), 0);
        t.delete(2);
        Terms.express(t, 2, "key 39 =");
        DUE.due("12: out of range at 39 rows", t.copy(2, 3), StatementTables.BAD_KEY);
        DUE.due("12: 39 more at 39 rows", t.copy(0, 3), StatementTables.FULL);
        Terms.express(t, 1, "key 11 +");
        DUE.due("12: the 40th row", t.copy(2, 1), 1);
    }

    private static void copyOrder() {
        StatementTables t = table(1, 2);
        t.unique(1);
        Terms.express(t, 1, "key 3 <");
        t.check(1);
        Terms.express(t, 2, "key 3 +");
        Terms.express(t, 3, "key 1 +");
        t.save(3);
        DUE.due("12: BAD_KEY before NOT_UNIQUE", t.copy(0, 3), StatementTables.BAD_KEY);
        DUE.due("12: NOT_UNIQUE before UNCHECKED", t.copy(0, 2), StatementTables.NOT_UNIQUE);
        t.unique(0);
        DUE.due("12: UNCHECKED", t.copy(0, 2), StatementTables.UNCHECKED);
        unchanged("12: refused", t);
        t.uncheck();
        DUE.due("12: good", t.copy(0, 2), 2);
    }

    private static void lowestAndHighestKey() {
        StatementTables t = table(-50, 50);
        Terms.express(t, 1, "key 0 < 1 -1 choose");
        Terms.express(t, 2, "key 0 < key 1 + key 1 - choose");
        DUE.due("11: both", t.update(0, 1, 1), 2);
        DUE.due("11: lowest key", t.value(-50, 1), 1);
        DUE.due("11: highest key", t.value(50, 1), -1);
        DUE.due("12: both", t.copy(0, 2), 2);
        DUE.due("12: lowest key", t.value(-49, 3), 50);
        DUE.due("12: highest key", t.value(49, 3), 150);
        DUE.due("10: all four", t.delete(0), 4);
        DUE.due("10: none is left", t.rows(), 0);
    }

    private static void badExpressions() {
        StatementTables t = table(0, 1, 2);
        t.save(3);
        for (int e : new int[] {-1, 8, MIN, MAX}) {
            DUE.due("10: bad w", t.delete(e), StatementTables.BAD_ARG);
            DUE.due("11: bad w", t.update(e, 1, 0), StatementTables.BAD_ARG);
            DUE.due("11: bad e", t.update(0, 1, e), StatementTables.BAD_ARG);
            DUE.due("12: bad w", t.copy(e, 0), StatementTables.BAD_ARG);
            DUE.due("12: bad e", t.copy(0, e), StatementTables.BAD_ARG);
        }
        Terms.express(t, 1, Terms.FAULT);
        DUE.due("11: bad e before FAULT", t.update(1, 1, 8), StatementTables.BAD_ARG);
        DUE.due("12: bad e before FAULT", t.copy(1, 8), StatementTables.BAD_ARG);
        unchanged("bad expressions", t);
    }

    private static void uncheckedForUnchangedRows() {
        StatementTables t = table(1, 2, 3);
        Terms.express(t, 1, "key p0 < not");
        Terms.express(t, 2, "0");
        Terms.express(t, 3, "key 9 +");
        Terms.express(t, 4, "key 2 < not");
        t.check(1);
        t.save(3);
        t.parameter(0, 2);
        DUE.due("26: insert", t.insert(9, 0, 0, 0), StatementTables.UNCHECKED);
        DUE.due("26: update of no row", t.update(2, 1, 2), StatementTables.UNCHECKED);
        DUE.due("26: update of others", t.update(4, 1, 2), StatementTables.UNCHECKED);
        DUE.due("26: copy of no row", t.copy(2, 3), StatementTables.UNCHECKED);
        DUE.due("26: copy of others", t.copy(4, 3), StatementTables.UNCHECKED);
        DUE.due("26: load", t.load(3), StatementTables.UNCHECKED);
        unchanged("26: refused", t);
        t.parameter(0, -1);
        DUE.due("26: insert is good again", t.insert(9, 0, 0, 0), 4);
        t.parameter(0, 2);
        Terms.express(t, 5, "key 2 <");
        DUE.due("26: delete of the row", t.delete(5), 1);
        DUE.due("26: then insert is good", t.insert(10, 0, 0, 0), 4);
    }
}
