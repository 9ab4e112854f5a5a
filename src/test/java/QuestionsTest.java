/** Promises 19 to 25, and of promise 26 what is about questions. */
public final class QuestionsTest {
    private static final Due DUE = new Due();
    private static final int MAX = Integer.MAX_VALUE;
    private static final int MIN = Integer.MIN_VALUE;
    private static final int[] BAD = {-1, 8, MIN, MAX};

    public static void main(String[] args) {
        rows();
        value();
        count();
        sum();
        greatest();
        different();
        key();
        questionsChangeNothing();
        DUE.end();
    }

    /** Expression 1: 0 < a; 2: b; 3: none; 4: a fault for key 0; 5: a fault unless 0 < a. */
    private static StatementTables table() {
        StatementTables t = new StatementTables();
        t.insert(5, 3, 10, 0);
        t.insert(-5, 2, -20, 0);
        t.insert(0, 0, 40, 0);
        t.insert(50, 1, 10, 0);
        t.insert(-50, -1, 7, 0);
        Terms.express(t, 1, "0 a <");
        Terms.express(t, 2, "b");
        Terms.express(t, 3, "0");
        Terms.express(t, 4, "9 key /");
        Terms.express(t, 5, "9 a 0 max /");
        return t;
    }

    private static void rows() {
        StatementTables t = new StatementTables();
        DUE.due("19: none", t.rows(), 0);
        for (int k = 1; k <= 40; k++) {
            t.insert(k, 0, 0, 0);
            DUE.due("19: rows", t.rows(), k);
        }
        t.insert(41, 0, 0, 0);
        DUE.due("19: rows", t.rows(), 40);
        t.delete(0);
        DUE.due("19: none left", t.rows(), 0);
    }

    private static void value() {
        StatementTables t = new StatementTables();
        t.insert(-50, MIN, MAX, -1);
        t.insert(50, 7, 8, 9);
        DUE.due("20: key", t.value(-50, 0), -50);
        DUE.due("20: a", t.value(-50, 1), MIN);
        DUE.due("20: b", t.value(-50, 2), MAX);
        DUE.due("20: c", t.value(-50, 3), -1);
        DUE.due("20: key", t.value(50, 0), 50);
        DUE.due("20: c", t.value(50, 3), 9);
        for (int k : new int[] {0, -49, 49, -51, 51, MIN, MAX}) {
            DUE.due("20: no row " + k, t.value(k, 1), StatementTables.NONE);
            DUE.due("20: column first", t.value(k, 4), StatementTables.BAD_ARG);
        }
        for (int col : new int[] {-1, 4, MIN, MAX}) {
            DUE.due("20: bad column", t.value(50, col), StatementTables.BAD_ARG);
        }
    }

    private static void count() {
        StatementTables t = table();
        DUE.due("21: all", t.count(0), 5);
        DUE.due("21: some", t.count(1), 3);
        DUE.due("21: none", t.count(3), 0);
        DUE.due("21: negative values are not 0", t.count(2), 5);
        DUE.due("21: fault", t.count(4), StatementTables.FAULT);
        for (int w : BAD) {
            DUE.due("21: bad w", t.count(w), StatementTables.BAD_ARG);
        }
        DUE.due("21: no row, no fault", emptied(t).count(4), 0);
    }

    private static StatementTables emptied(StatementTables t) {
        t.delete(0);
        return t;
    }

    private static void sum() {
        StatementTables t = table();
        DUE.due("22: all", t.sum(0, 2), 47);
        DUE.due("22: some", t.sum(1, 2), 0);
        DUE.due("22: none", t.sum(3, 2), 0);
        DUE.due("22: fault of w", t.sum(4, 2), StatementTables.FAULT);
        DUE.due("22: fault of e", t.sum(0, 4), StatementTables.FAULT);
        DUE.due("22: fault of e only for rows that do not meet w", t.sum(1, 5), 3 + 4 + 9);
        DUE.due("22: no row is asked for e", t.sum(3, 4), 0);
        for (int e : BAD) {
            DUE.due("22: bad w", t.sum(e, 0), StatementTables.BAD_ARG);
            DUE.due("22: bad e", t.sum(0, e), StatementTables.BAD_ARG);
            DUE.due("22: bad e before FAULT", t.sum(4, e), StatementTables.BAD_ARG);
        }
        StatementTables u = new StatementTables();
        u.insert(1, MAX, MIN, 0);
        u.insert(2, MAX, MIN, 0);
        u.insert(3, 3, -1, 0);
        Terms.express(u, 1, "a");
        Terms.express(u, 2, "b");
        DUE.due("22: wraps", u.sum(0, 1), 1);
        DUE.due("22: wraps", u.sum(0, 2), -1);
    }

    private static void greatest() {
        StatementTables t = table();
        DUE.due("23: all", t.greatest(0, 2), 40);
        DUE.due("23: some", t.greatest(1, 2), 10);
        DUE.due("23: none", t.greatest(3, 2), StatementTables.NONE);
        DUE.due("23: fault of w", t.greatest(4, 2), StatementTables.FAULT);
        DUE.due("23: fault of e", t.greatest(0, 4), StatementTables.FAULT);
        DUE.due("23: fault of e only for rows that do not meet w", t.greatest(1, 5), 9);
        Terms.express(t, 6, "key 0 = 1 0 / 0 choose");
        DUE.due("26: fault of w though no other row meets it", t.greatest(6, 2),
                StatementTables.FAULT);
        for (int e : BAD) {
            DUE.due("23: bad w", t.greatest(e, 0), StatementTables.BAD_ARG);
            DUE.due("23: bad e before FAULT", t.greatest(4, e), StatementTables.BAD_ARG);
            DUE.due("23: bad e before NONE", t.greatest(3, e), StatementTables.BAD_ARG);
        }
        StatementTables u = new StatementTables();
        DUE.due("23: no row", u.greatest(0, 0), StatementTables.NONE);
        u.insert(1, MIN, -7, 0);
        Terms.express(u, 1, "a");
        Terms.express(u, 2, "b");
        DUE.due("23: the least int", u.greatest(0, 1), MIN);
        u.insert(2, MIN + 1, -8, 0);
        DUE.due("23: below 0", u.greatest(0, 1), MIN + 1);
        DUE.due("23: below 0", u.greatest(0, 2), -7);
        u.insert(50, 3, 6, 0);
        u.insert(-50, 4, 5, 0);
        DUE.due("23: lowest key", u.greatest(0, 1), 4);
        DUE.due("23: highest key", u.greatest(0, 2), 6);
    }

    private static void different() {
        StatementTables t = table();
        DUE.due("24: all", t.different(0, 2), 4);
        DUE.due("24: some", t.different(1, 2), 2);
        DUE.due("24: one value", t.different(0, 0), 1);
        DUE.due("24: none", t.different(3, 2), 0);
        DUE.due("24: fault of w", t.different(4, 2), StatementTables.FAULT);
        DUE.due("24: fault of e", t.different(0, 4), StatementTables.FAULT);
        DUE.due("24: fault of e only for rows that do not meet w", t.different(1, 5), 3);
        for (int e : BAD) {
            DUE.due("24: bad w", t.different(e, 0), StatementTables.BAD_ARG);
            DUE.due("24: bad e before FAULT", t.different(4, e), StatementTables.BAD_ARG);
        }
        StatementTables u = new StatementTables();
        for (int k = 1; k <= 40; k++) {
            u.insert(k, k % 7, 0, 0);
        }
        Terms.express(u, 1, "a");
        Terms.express(u, 2, "key");
        DUE.due("24: seven values", u.different(0, 1), 7);
        DUE.due("24: all of 40", u.different(0, 2), 40);
        DUE.due("24: a is 0 in row 7", u.different(1, 1), 6);
    }

    private static void key() {
        StatementTables t = table();
        int[] all = {-50, -5, 0, 5, 50};
        int[] some = {-5, 5, 50};
        for (int n = 0; n < 5; n++) {
            DUE.due("25: rising", t.key(0, n, 0), all[n]);
            DUE.due("25: falling", t.key(0, n, 1), all[4 - n]);
            DUE.due("25: falling", t.key(0, n, -9), all[4 - n]);
        }
        for (int n = 0; n < 3; n++) {
            DUE.due("25: rising, some", t.key(1, n, 0), some[n]);
            DUE.due("25: falling, some", t.key(1, n, MIN), some[2 - n]);
        }
        for (int n : new int[] {-1, MIN, 3, 5, MAX}) {
            DUE.due("25: no n-th", t.key(1, n, 0), StatementTables.NONE);
            DUE.due("25: no n-th", t.key(1, n, 1), StatementTables.NONE);
            DUE.due("26: FAULT before NONE", t.key(4, n, 0), StatementTables.FAULT);
            DUE.due("26: FAULT before NONE", t.key(4, n, 1), StatementTables.FAULT);
        }
        DUE.due("25: none meets", t.key(3, 0, 0), StatementTables.NONE);
        DUE.due("25: fault behind the n-th row", t.key(4, 0, 0), StatementTables.FAULT);
        DUE.due("25: fault before the n-th row", t.key(4, 0, 1), StatementTables.FAULT);
        for (int w : BAD) {
            DUE.due("25: bad w", t.key(w, -1, 0), StatementTables.BAD_ARG);
        }
        DUE.due("25: no row", new StatementTables().key(0, 0, 0), StatementTables.NONE);
    }

    private static void questionsChangeNothing() {
        StatementTables t = table();
        t.leaf(0, 1);
        t.save(0);
        t.count(1);
        t.sum(1, 2);
        t.greatest(1, 2);
        t.different(1, 2);
        t.key(1, 1, 1);
        t.value(5, 1);
        t.rows();
        DUE.due("questions change no row", t.differences(0), 0);
        DUE.due("questions leave the stack", t.leaf(0, 1), 2);
    }
}
