import java.util.function.Consumer;

/** Promises 13 to 15, and of 26 what is about them: every bound and refusal that is named. */
public final class ConditionBoundsTest {
    private static final Due DUE = new Due();
    private static final Bounds BOUNDS = new Bounds(DUE);
    private static final int BAD_ARG = StatementTables.BAD_ARG;
    private static final int NOT_UNIQUE = StatementTables.NOT_UNIQUE;
    private static final int UNCHECKED = StatementTables.UNCHECKED;
    private static final int MAX = Integer.MAX_VALUE;
    private static final int MIN = Integer.MIN_VALUE;
    private static final int W = Sample.W;
    private static final int E = Sample.E;

    public static void main(String[] args) {
        uniqueOnOrOff();
        uniqueNotMet();
        uniqueOfFewRows();
        uniqueAsItWas();
        checkExpression();
        checkNotMet();
        checkFault();
        checkOfFewRows();
        checkNumberOfRows();
        checkAsItIsNow();
        checkParameters();
        checkAsItWas();
        uncheck();
        DUE.end();
    }

    private static Consumer<StatementTables> sample(String e) {
        return Sample.with(t -> Terms.express(t, E, e));
    }

    /** "Unique is on (on not 0) or off." */
    private static void uniqueOnOrOff() {
        for (int on : new int[] {1, -1, 2, MIN, MAX, 256, 65536}) {
            BOUNDS.leaves("13: on again by " + on, Sample.plain(), t -> t.unique(on), 0);
            BOUNDS.changes("13: on by " + on, Sample.with(t -> t.unique(0)), t -> t.unique(on), 0,
                    "unique");
        }
        BOUNDS.changes("13: off", Sample.plain(), t -> t.unique(0), 0, "unique");
        BOUNDS.leaves("13: off again", Sample.with(t -> t.unique(0)), t -> t.unique(0), 0);
    }

    /** "NOT_UNIQUE if it is to be on and is not met", whichever two rows have the same c. */
    private static void uniqueNotMet() {
        for (int k : Sample.KEYS) {
            for (int other : Sample.KEYS) {
                if (k < other) {
                    Consumer<StatementTables> twice = Sample.with(t -> {
                        t.unique(0);
                        Terms.express(t, W, "key " + k + " = key " + other + " = or");
                        t.update(W, 3, Sample.NO_ROW);
                    });
                    BOUNDS.refused("13: " + k + " and " + other, twice, t -> t.unique(1),
                            NOT_UNIQUE);
                }
            }
        }
        Consumer<StatementTables> all = Sample.with(t -> {
            t.unique(0);
            t.update(Sample.ALL, 3, Sample.NO_ROW);
        });
        BOUNDS.refused("13: all", all, t -> t.unique(MIN), NOT_UNIQUE);
        BOUNDS.leaves("13: to be off, and not met", all, t -> t.unique(0), 0);
        for (int col = 1; col <= 2; col++) {
            int other = col;
            BOUNDS.changes("13: the same in another column", Sample.with(t -> {
                t.unique(0);
                t.update(Sample.ALL, other, Sample.ALL);
            }), t -> t.unique(1), 0, "unique");
        }
    }

    /**
     * "no two rows have the same c": rows that are not in the table, or not any more, do not count.
     */
    private static void uniqueOfFewRows() {
        BOUNDS.changes("13: no row", t -> { }, t -> t.unique(1), 0, "unique");
        BOUNDS.changes("13: one row", t -> t.insert(0, 0, 0, 0), t -> t.unique(1), 0, "unique");
        Consumer<StatementTables> deleted = t -> {
            t.insert(-50, 0, 0, 7);
            t.insert(50, 0, 0, 7);
            Terms.express(t, 1, "key 50 =");
            t.delete(1);
        };
        BOUNDS.changes("13: the other row is deleted", deleted, t -> t.unique(1), 0, "unique");
        BOUNDS.changes("13: 40 rows", Sample.full(t -> t.unique(0)), t -> t.unique(1), 0,
                "unique");
        BOUNDS.refused("13: 40 rows, two with the same c", Sample.full(t -> {
            t.unique(0);
            Terms.express(t, W, "key 50 =");
            Terms.express(t, E, "11");
            t.update(W, 3, E);
        }), t -> t.unique(1), NOT_UNIQUE);
        BOUNDS.changes("13: rows saved do not matter", t -> {
            t.insert(1, 0, 0, 7);
            t.insert(2, 0, 0, 7);
            t.save(0);
            t.delete(0);
        }, t -> t.unique(1), 0, "unique");
    }

    /** "a unique that answers NOT_UNIQUE leaves unique as it was": off, and the check too. */
    private static void uniqueAsItWas() {
        StatementTables t = new StatementTables();
        t.insert(1, 0, 0, 7);
        t.insert(2, 0, 0, 7);
        DUE.due("26: refused", t.unique(1), NOT_UNIQUE);
        DUE.due("26: off still for insert", t.insert(3, 0, 0, 7), 3);
        Terms.express(t, 1, "key 10 +");
        DUE.due("26: off still for copy", t.copy(0, 1), 3);
        DUE.due("26: off still for update", t.update(0, 3, 0), 6);
        t.save(0);
        DUE.due("26: off still for load", t.load(0), 6);
    }

    /** "one that is not 0 to 7 answers BAD_ARG before anything else". */
    private static void checkExpression() {
        for (int e : new int[] {-1, 8, 9, MIN, MAX}) {
            BOUNDS.refused("14: e " + e, Sample.plain(), t -> t.check(e), BAD_ARG);
            BOUNDS.refused("14: e " + e + ", check is off", Sample.with(t -> t.uncheck()),
                    t -> t.check(e), BAD_ARG);
            DUE.due("14: e " + e + ", no row", new StatementTables().check(e), BAD_ARG);
        }
        for (int e : new int[] {0, 7}) {
            BOUNDS.changes("14: e " + e, Sample.plain(), t -> t.check(e), 6, "check");
        }
    }

    /** "UNCHECKED if a row does not meet it": whichever it is. */
    private static void checkNotMet() {
        for (int k : Sample.KEYS) {
            BOUNDS.refused("14: 0 at " + k, sample("key " + k + " = not"), t -> t.check(E),
                    UNCHECKED);
        }
        BOUNDS.refused("14: 0", sample("0"), t -> t.check(E), UNCHECKED);
        for (String notZero : new String[] {"-1", "2", "-99", "p1 p1 * p1 *"}) {
            BOUNDS.changes("14: " + notZero + " is not 0", sample(notZero), t -> t.check(E), 6,
                    "check");
        }
        BOUNDS.refused("14: wraps to 0", Sample.with(t -> {
            t.parameter(0, 65536);
            Terms.express(t, E, "p0 p0 *");
        }), t -> t.check(E), UNCHECKED);
        BOUNDS.changes("14: 65536 is not 0", Sample.with(t -> {
            t.parameter(0, 65536);
            Terms.express(t, E, "p0");
        }), t -> t.check(E), 6, "check");
    }

    /** "worked out without fault ... for every row": a fault answers UNCHECKED, not FAULT. */
    private static void checkFault() {
        for (int k : Sample.KEYS) {
            BOUNDS.refused("14: a fault at " + k, sample(Sample.at(k, Terms.FAULT, "1")),
                    t -> t.check(E), UNCHECKED);
        }
        BOUNDS.refused("14: a fault at one row, 0 at others",
                sample(Sample.at(0, Terms.FAULT, "0")), t -> t.check(E), UNCHECKED);
        BOUNDS.changes("14: a fault for no row", sample("9 key 1 - / 1 or"), t -> t.check(E),
                6, "check");
    }

    /** No row is no row that does not meet it. */
    private static void checkOfFewRows() {
        for (String e : new String[] {"0", Terms.FAULT}) {
            Consumer<StatementTables> noRow = t -> Terms.express(t, E, e);
            BOUNDS.changes("14: no row, check " + e, noRow, t -> t.check(E), 0, "check");
            StatementTables t = new StatementTables();
            noRow.accept(t);
            t.check(E);
            DUE.due("14: then no row is taken", t.insert(0, 0, 0, 0), UNCHECKED);
            DUE.due("14: and no row is there", t.rows(), 0);
        }
        Consumer<StatementTables> deleted = Sample.with(t -> t.delete(Sample.ALL));
        BOUNDS.changes("14: all rows deleted", deleted, t -> t.check(Sample.NO_ROW), 0, "check");
    }

    /** "Otherwise the number of rows." */
    private static void checkNumberOfRows() {
        StatementTables t = new StatementTables();
        for (int k = 0; k < 40; k++) {
            DUE.due("14: rows", t.check(0), k);
            t.insert(k, 0, 0, 0);
        }
        DUE.due("14: rows", t.check(0), 40);
        DUE.due("14: more are refused by FULL first", t.insert(40, 0, 0, 0),
                StatementTables.FULL);
    }

    /** "with expression e as it is now (later changes of e do not matter ...)". */
    private static void checkAsItIsNow() {
        StatementTables t = new StatementTables();
        Terms.express(t, 1, "a 5 < not");
        t.check(1);
        for (int e = 0; e <= 7; e++) {
            Terms.express(t, e, "1");
        }
        DUE.due("14: the check of then", t.insert(1, 4, 0, 0), UNCHECKED);
        for (int e = 0; e <= 7; e++) {
            Terms.express(t, e, "0");
        }
        DUE.due("14: the check of then", t.insert(1, 5, 0, 0), 1);
        Terms.push(t, "1 2 3");
        DUE.due("14: whatever is on the stack", t.insert(2, 4, 0, 0), UNCHECKED);
        DUE.due("14: e itself is the new one", t.count(1), 0);
        DUE.due("14: which a row does not meet", t.check(1), UNCHECKED);
        StatementTables u = new StatementTables();
        DUE.due("14: a term of 24 parts", Terms.express(u, 1,
                "a 1 2 3 4 5 6 + + + + + 6 6 6 + + neg neg neg - neg neg -"), 24);
        DUE.due("14: is the check", u.check(1), 0);
        Terms.express(u, 1, "1");
        DUE.due("14: it is 0 for a 39", u.insert(1, 39, 0, 0), UNCHECKED);
        DUE.due("14: it is not for a 38", u.insert(1, 38, 0, 0), 1);
    }

    /** "parameters are those at each statement". */
    private static void checkParameters() {
        for (int p = 0; p <= 2; p++) {
            StatementTables t = new StatementTables();
            Terms.express(t, 1, "a p" + p + " <");
            DUE.due("14: no row", t.check(1), 0);
            DUE.due("14: a 0, p 0", t.insert(1, 0, 0, 0), UNCHECKED);
            t.parameter(p, 1);
            DUE.due("14: a 0, p 1", t.insert(1, 0, 0, 0), 1);
            DUE.due("14: a 1, p 1", t.insert(2, 1, 0, 0), UNCHECKED);
            t.parameter(p, MAX);
            DUE.due("14: a 1, p great", t.insert(2, 1, 0, 0), 2);
            t.parameter(p, 1);
            DUE.due("14: rows stay though p changes", t.rows(), 2);
            DUE.due("14: check asks with p of now", t.check(1), UNCHECKED);
        }
    }

    /** "A check that answers UNCHECKED leaves the check as it was". */
    private static void checkAsItWas() {
        BOUNDS.refused("26: another check is on", Sample.plain(), t -> t.check(Sample.NO_ROW),
                UNCHECKED);
        BOUNDS.refused("26: check is off", Sample.with(t -> t.uncheck()),
                t -> t.check(Sample.NO_ROW), UNCHECKED);
        BOUNDS.refused("26: by a fault, another is on", Sample.plain(),
                t -> t.check(Sample.FAULT_AT_0), UNCHECKED);
        BOUNDS.refused("26: by a fault, check is off", Sample.with(t -> t.uncheck()),
                t -> t.check(Sample.FAULT_AT_0), UNCHECKED);
    }

    /** "Check is off. Answers 1 if it was on, else 0." */
    private static void uncheck() {
        BOUNDS.leaves("15: it was off", Sample.with(t -> t.uncheck()), t -> t.uncheck(), 0);
        BOUNDS.changes("15: it was on", Sample.plain(), t -> t.uncheck(), 1, "check");
        BOUNDS.changes("15: it was put on twice", Sample.with(t -> t.check(0)),
                t -> t.uncheck() + t.uncheck(), 1, "check");
        BOUNDS.leaves("15: off at first", t -> { }, t -> t.uncheck(), 0);
        BOUNDS.changes("15: off, then on again", Sample.with(t -> t.uncheck()), t -> t.check(W),
                6, "check");
    }
}
