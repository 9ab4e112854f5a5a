/** Promises 13 to 15, and of promise 26 what is about conditions. */
public final class ConditionsTest {
    private static final Due DUE = new Due();

    public static void main(String[] args) {
        uniqueOnAndOff();
        uniqueRefused();
        check();
        checkKeepsItsTerm();
        checkRefused();
        checkOfFaults();
        checkUsesParametersOfTheStatement();
        uncheck();
        DUE.end();
    }

    private static void uniqueOnAndOff() {
        StatementTables t = new StatementTables();
        DUE.due("13: on for no row", t.unique(1), 0);
        t.insert(1, 4, 4, 5);
        DUE.due("13: c must differ", t.insert(2, 0, 0, 5), StatementTables.NOT_UNIQUE);
        DUE.due("13: a and b need not", t.insert(2, 4, 4, 6), 2);
        DUE.due("13: on again", t.unique(1), 0);
        DUE.due("13: off", t.unique(0), 0);
        DUE.due("13: off", t.insert(3, 0, 0, 5), 3);
        DUE.due("13: off again", t.unique(0), 0);
        StatementTables u = new StatementTables();
        for (int on : new int[] {-1, 2, Integer.MIN_VALUE, Integer.MAX_VALUE}) {
            DUE.due("13: all but 0 is on", u.unique(on), 0);
            u.insert(1, 0, 0, 5);
            DUE.due("13: on for " + on, u.insert(2, 0, 0, 5), StatementTables.NOT_UNIQUE);
            u.unique(0);
        }
    }

    private static void uniqueRefused() {
        StatementTables t = new StatementTables();
        t.insert(-50, 0, 0, 5);
        t.insert(0, 0, 0, 6);
        t.insert(50, 0, 0, 5);
        DUE.due("13: first and last", t.unique(1), StatementTables.NOT_UNIQUE);
        DUE.due("26: refused, unique stays off", t.insert(1, 0, 0, 6), 4);
        DUE.due("13: a removed row does not count", removeAndTurnOn(t), 0);
    }

    private static int removeAndTurnOn(StatementTables t) {
        Terms.express(t, 1, "key 0 = key 50 = or");
        DUE.due("10: two rows", t.delete(1), 2);
        return t.unique(1);
    }

    private static void check() {
        StatementTables t = new StatementTables();
        Terms.express(t, 1, "a");
        DUE.due("14: on for no row", t.check(1), 0);
        DUE.due("14: 0 does not meet", t.insert(1, 0, 9, 9), StatementTables.UNCHECKED);
        DUE.due("14: all but 0 meets", t.insert(1, -7, 0, 0), 1);
        DUE.due("14: all but 0 meets", t.insert(2, 2, 0, 0), 2);
        DUE.due("14: number of rows", t.check(1), 2);
        for (int e : new int[] {-1, 8, Integer.MIN_VALUE, Integer.MAX_VALUE}) {
            DUE.due("14: bad e", t.check(e), StatementTables.BAD_ARG);
        }
        Terms.express(t, 2, "b 0 =");
        DUE.due("14: another check takes its place", t.check(2), 2);
        DUE.due("14: the old one is gone", t.insert(3, 0, 0, 0), 3);
        DUE.due("14: the new one holds", t.insert(4, 1, 1, 1), StatementTables.UNCHECKED);
    }

    private static void checkKeepsItsTerm() {
        StatementTables t = new StatementTables();
        Terms.express(t, 1, "a 5 <");
        t.check(1);
        Terms.express(t, 1, "1");
        DUE.due("14: e as it was", t.insert(1, 5, 0, 0), StatementTables.UNCHECKED);
        DUE.due("14: e as it was", t.insert(1, 4, 0, 0), 1);
        Terms.express(t, 7, "1");
        t.leaf(0, 7);
        DUE.due("14: other expressions do not matter", t.insert(2, 5, 0, 0),
                StatementTables.UNCHECKED);
        for (int e = 0; e < 8; e++) {
            DUE.due("14: expressions stay", t.sum(0, e), 1);
        }
        DUE.due("14: the stack stays", t.leaf(0, 7), 2);
        DUE.due("14: the stack does not matter", t.insert(2, 5, 0, 0), StatementTables.UNCHECKED);
    }

    private static void checkRefused() {
        StatementTables t = new StatementTables();
        t.insert(1, 5, 0, 0);
        t.insert(2, 6, 0, 0);
        Terms.express(t, 1, "a 6 <");
        DUE.due("14: a row does not meet it", t.check(1), StatementTables.UNCHECKED);
        DUE.due("26: refused, check stays off", t.insert(3, 9, 0, 0), 3);
        DUE.due("26: refused, check stays off", t.uncheck(), 0);
        Terms.express(t, 2, "a 20 <");
        DUE.due("14: all meet it", t.check(2), 3);
        DUE.due("14: refused", t.check(1), StatementTables.UNCHECKED);
        DUE.due("26: refused, the check before stays", t.insert(4, 19, 0, 0), 4);
        DUE.due("26: refused, the check before stays", t.insert(5, 20, 0, 0),
                StatementTables.UNCHECKED);
        DUE.due("26: refused, it is on", t.uncheck(), 1);
    }

    private static void checkOfFaults() {
        StatementTables t = new StatementTables();
        t.insert(1, 0, 0, 0);
        Terms.express(t, 1, "1 a /");
        DUE.due("14: a fault is not met", t.check(1), StatementTables.UNCHECKED);
        t.update(0, 1, 0);
        DUE.due("14: no fault now", t.check(1), 1);
        DUE.due("14: a fault in insert", t.insert(2, 0, 0, 0), StatementTables.UNCHECKED);
        DUE.due("14: 0 in insert", t.insert(2, 2, 0, 0), StatementTables.UNCHECKED);
        DUE.due("14: good insert", t.insert(2, -1, 0, 0), 2);
        Terms.express(t, 4, "a 1 +");
        DUE.due("14: a fault in update", t.update(0, 1, 4), StatementTables.UNCHECKED);
    }

    private static void checkUsesParametersOfTheStatement() {
        StatementTables t = new StatementTables();
        Terms.express(t, 1, "a p2 <");
        t.parameter(2, 10);
        t.check(1);
        DUE.due("14: below 10", t.insert(1, 9, 0, 0), 1);
        t.parameter(2, 20);
        DUE.due("14: below 20", t.insert(2, 19, 0, 0), 2);
        DUE.due("14: not below 20", t.insert(3, 20, 0, 0), StatementTables.UNCHECKED);
        t.parameter(2, 10);
        DUE.due("14: check again", t.check(1), StatementTables.UNCHECKED);
    }

    private static void uncheck() {
        StatementTables t = new StatementTables();
        DUE.due("15: was off", t.uncheck(), 0);
        Terms.express(t, 1, "0");
        DUE.due("14: on", t.check(1), 0);
        DUE.due("14: refuses", t.insert(1, 0, 0, 0), StatementTables.UNCHECKED);
        DUE.due("15: was on", t.uncheck(), 1);
        DUE.due("15: is off", t.insert(1, 0, 0, 0), 1);
        DUE.due("15: was off", t.uncheck(), 0);
        t.unique(1);
        t.uncheck();
        DUE.due("15: unique stays", t.insert(2, 0, 0, 0), StatementTables.NOT_UNIQUE);
    }
}
