import java.util.function.Consumer;

/** Promises 9 and 10: every sentence that names a bound or a refusal. */
public final class InsertDeleteBoundsTest {
    private static final Due DUE = new Due();
    private static final Bounds BOUNDS = new Bounds(DUE);
    private static final int BAD_ARG = StatementTables.BAD_ARG;
    private static final int FULL = StatementTables.FULL;
    private static final int FAULT = StatementTables.FAULT;
    private static final int BAD_KEY = StatementTables.BAD_KEY;
    private static final int NOT_UNIQUE = StatementTables.NOT_UNIQUE;
    private static final int UNCHECKED = StatementTables.UNCHECKED;
    private static final int MAX = Integer.MAX_VALUE;
    private static final int MIN = Integer.MIN_VALUE;
    /** In the sample: a c that no row has and the check takes, one that row 3 has, one too big. */
    private static final int FREE_C = 1;
    private static final int TAKEN_C = 14;
    private static final int BIG_C = 70;

    public static void main(String[] args) {
        insertKeyRange();
        insertKeyTaken();
        insertMostRows();
        insertUnique();
        insertChecked();
        insertCheckedForOtherRows();
        insertBadKeyFirst();
        insertFullSecond();
        insertNotUniqueThird();
        insertValues();
        deleteExpression();
        deleteFault();
        deleteFaultOnlyForRows();
        deleteHowMany();
        deleteTestsNoCondition();
        DUE.end();
    }

    /** "k not -50 to 50 ... answers BAD_KEY". */
    private static void insertKeyRange() {
        for (int k : new int[] {-51, 51, -52, 101, MIN, MAX}) {
            BOUNDS.refused("9: key " + k, Sample.plain(), t -> t.insert(k, 0, 0, FREE_C),
                    BAD_KEY);
        }
        for (int k : new int[] {-50, 50}) {
            BOUNDS.changes("9: key " + k, t -> t.insert(0, 1, 2, 3), t -> t.insert(k, 7, 8, 9),
                    2, "rows");
        }
        for (int k : new int[] {-49, 49, 1, -1}) {
            BOUNDS.changes("9: key " + k, Sample.plain(), t -> t.insert(k, 0, 0, FREE_C), 7,
                    "rows");
        }
    }

    /** "or there is a row with it, answers BAD_KEY". */
    private static void insertKeyTaken() {
        for (int k : Sample.KEYS) {
            BOUNDS.refused("9: there is a row " + k, Sample.plain(),
                    t -> t.insert(k, 99, 98, FREE_C), BAD_KEY);
        }
        BOUNDS.changes("9: the key of a deleted row", Sample.with(t -> t.delete(Sample.BELOW_0)),
                t -> t.insert(-7, 9, 9, FREE_C), 5, "rows");
        Consumer<StatementTables> moved = Sample.with(t -> {
            Terms.express(t, Sample.W, "key 3 =");
            t.update(Sample.W, 0, Sample.NEXT_KEY);
        });
        BOUNDS.changes("9: the key a row had", moved, t -> t.insert(3, 9, 9, FREE_C), 7, "rows");
        BOUNDS.refused("9: the key it has now", moved, t -> t.insert(4, 9, 9, FREE_C), BAD_KEY);
    }

    /** "40 rows answers FULL". */
    private static void insertMostRows() {
        BOUNDS.refused("9: 40 rows", Sample.full(t -> { }), t -> t.insert(8, 0, 0, FREE_C), FULL);
        Consumer<StatementTables> one = Sample.full(t -> {
            Terms.express(t, Sample.W, "key 7 =");
            t.delete(Sample.W);
        });
        BOUNDS.changes("9: 39 rows", one, t -> t.insert(8, 0, 0, FREE_C), 40, "rows");
    }

    /** "NOT_UNIQUE": two rows would have the same c. */
    private static void insertUnique() {
        for (int c : new int[] {11, 12, 13, 14, 16, 17}) {
            BOUNDS.refused("9: c " + c, Sample.plain(), t -> t.insert(1, 0, 0, c), NOT_UNIQUE);
        }
        for (int k : new int[] {-49, 49}) {
            BOUNDS.refused("9: the c of the row behind", Sample.plain(),
                    t -> t.insert(k, 0, 0, TAKEN_C), NOT_UNIQUE);
        }
        for (int c : new int[] {MIN, MAX, 0, -1}) {
            StatementTables t = new StatementTables();
            t.unique(1);
            t.insert(-50, 0, 0, c);
            DUE.due("9: twice c " + c, t.insert(50, 0, 0, c), NOT_UNIQUE);
            DUE.due("9: c " + c + " and the next", t.insert(50, 0, 0, c + 1), 2);
        }
        BOUNDS.changes("9: unique is off", Sample.with(t -> t.unique(0)),
                t -> t.insert(1, 0, 0, TAKEN_C), 7, "rows");
    }

    /** "UNCHECKED": a row would not meet the check, be it by 0 or by a fault. */
    private static void insertChecked() {
        BOUNDS.refused("9: check is 0", Sample.plain(), t -> t.insert(1, 0, 0, BIG_C), UNCHECKED);
        BOUNDS.changes("9: check is 1", Sample.plain(), t -> t.insert(1, 0, 0, BIG_C - 1), 7,
                "rows");
        Consumer<StatementTables> fault = Sample.with(t -> {
            Terms.express(t, Sample.E, "c c 1 - /");
            t.check(Sample.E);
        });
        BOUNDS.refused("9: check is a fault", fault, t -> t.insert(1, 0, 0, 1), UNCHECKED);
        BOUNDS.refused("9: that check is 0", fault, t -> t.insert(1, 0, 0, 0), UNCHECKED);
        BOUNDS.changes("9: that check is not 0", fault, t -> t.insert(1, 0, 0, 2), 7, "rows");
        BOUNDS.changes("9: check is off", Sample.with(t -> t.uncheck()),
                t -> t.insert(1, 0, 0, BIG_C), 7, "rows");
    }

    /** "UNCHECKED is tested for every row of the table as it would be then". */
    private static void insertCheckedForOtherRows() {
        for (int least : new int[] {17, 12}) {
            BOUNDS.refused("26: rows that stay", Sample.with(t -> t.parameter(2, least)),
                    t -> t.insert(1, 0, 0, FREE_C), UNCHECKED);
        }
        BOUNDS.changes("26: rows that stay meet it", Sample.with(t -> t.parameter(2, 18)),
                t -> t.insert(1, 0, 0, FREE_C), 7, "rows");
    }

    /** "Tested in this order": BAD_KEY before FULL, NOT_UNIQUE and UNCHECKED. */
    private static void insertBadKeyFirst() {
        for (int k : new int[] {-51, 51, 3, -50, 50}) {
            BOUNDS.refused("9: BAD_KEY before FULL", Sample.full(t -> { }),
                    t -> t.insert(k, 0, 0, FREE_C), BAD_KEY);
            BOUNDS.refused("9: BAD_KEY before NOT_UNIQUE", Sample.plain(),
                    t -> t.insert(k, 0, 0, TAKEN_C), BAD_KEY);
            BOUNDS.refused("9: BAD_KEY before UNCHECKED", Sample.plain(),
                    t -> t.insert(k, 0, 0, BIG_C), BAD_KEY);
        }
    }

    /** FULL before NOT_UNIQUE and UNCHECKED. */
    private static void insertFullSecond() {
        BOUNDS.refused("9: FULL before NOT_UNIQUE", Sample.full(t -> { }),
                t -> t.insert(8, 0, 0, TAKEN_C), FULL);
        BOUNDS.refused("9: FULL before UNCHECKED", Sample.full(t -> { }),
                t -> t.insert(8, 0, 0, BIG_C), FULL);
    }

    /** NOT_UNIQUE before UNCHECKED, whichever row would fail the check. */
    private static void insertNotUniqueThird() {
        for (int k : new int[] {-49, 1, 49}) {
            BOUNDS.refused("9: NOT_UNIQUE before UNCHECKED", Sample.with(t -> t.parameter(2, 12)),
                    t -> t.insert(k, 0, 0, TAKEN_C), NOT_UNIQUE);
        }
        Consumer<StatementTables> checkOfA = Sample.with(t -> {
            Terms.express(t, Sample.E, "a 77 = not");
            t.check(Sample.E);
        });
        BOUNDS.refused("9: NOT_UNIQUE before UNCHECKED", checkOfA,
                t -> t.insert(1, 77, 0, TAKEN_C), NOT_UNIQUE);
        BOUNDS.refused("9: UNCHECKED then", checkOfA, t -> t.insert(1, 77, 0, FREE_C), UNCHECKED);
    }

    /** Values are any ints, also those of the codes. */
    private static void insertValues() {
        for (int x : new int[] {MIN, MAX, 0, BAD_ARG, FAULT, StatementTables.NONE}) {
            StatementTables t = new StatementTables();
            DUE.due("9: number of rows", t.insert(5, x, x, x), 1);
            for (int col = 1; col <= 3; col++) {
                DUE.due("9: column " + col + " is " + x, t.value(5, col), x);
            }
        }
    }

    /** "one that is not 0 to 7 answers BAD_ARG". */
    private static void deleteExpression() {
        for (int w : new int[] {-1, 8, 9, MIN, MAX}) {
            BOUNDS.refused("10: w " + w, Sample.plain(), t -> t.delete(w), BAD_ARG);
        }
        for (int w : new int[] {0, 7}) {
            BOUNDS.changes("10: w " + w, Sample.plain(), t -> t.delete(w), 6, "rows");
        }
    }

    /** "FAULT if w is one for some row", whichever it is, though others meet w. */
    private static void deleteFault() {
        for (int k : Sample.KEYS) {
            Consumer<StatementTables> faulty = Sample.with(
                    t -> Terms.express(t, Sample.W, Sample.at(k, Terms.FAULT, "1")));
            BOUNDS.refused("10: a fault at " + k, faulty, t -> t.delete(Sample.W), FAULT);
        }
        Consumer<StatementTables> noneMeets = Sample.with(
                t -> Terms.express(t, Sample.W, Sample.at(50, Terms.FAULT, "0")));
        BOUNDS.refused("10: a fault, no row meets w", noneMeets, t -> t.delete(Sample.W), FAULT);
    }

    /** "FAULT if w is one for some row": without such a row there is none. */
    private static void deleteFaultOnlyForRows() {
        Consumer<StatementTables> noRow = Sample.with(t -> t.delete(Sample.ALL));
        BOUNDS.leaves("10: no row, no fault", noRow, t -> t.delete(Sample.FAULT_AT_0), 0);
        Consumer<StatementTables> noKey0 = Sample.with(t -> {
            Terms.express(t, Sample.W, "key not");
            t.delete(Sample.W);
        });
        BOUNDS.changes("10: the fault's row is gone", noKey0, t -> t.delete(Sample.FAULT_AT_0), 2,
                "rows");
    }

    /** "Otherwise how many": none, some, all of 40. */
    private static void deleteHowMany() {
        BOUNDS.leaves("10: none", Sample.plain(), t -> t.delete(Sample.NO_ROW), 0);
        BOUNDS.changes("10: some", Sample.plain(), t -> t.delete(Sample.BELOW_0), 2, "rows");
        BOUNDS.changes("10: all of 40", Sample.full(t -> { }), t -> t.delete(Sample.ALL), 40,
                "rows");
        for (int k : Sample.KEYS) {
            StatementTables t = new StatementTables();
            Sample.fill(t);
            Terms.express(t, Sample.W, "key " + k + " =");
            DUE.due("10: one", t.delete(Sample.W), 1);
            for (int other : Sample.KEYS) {
                DUE.due("10: without " + k + ", row " + other, t.value(other, 0),
                        other == k ? StatementTables.NONE : other);
            }
        }
    }

    /** "delete tests neither UNIQUE nor CHECK". */
    private static void deleteTestsNoCondition() {
        Consumer<StatementTables> unmet = Sample.with(t -> t.parameter(2, -99));
        BOUNDS.changes("26: rows left do not meet the check", unmet,
                t -> t.delete(Sample.BELOW_0), 2, "rows");
        BOUNDS.leaves("26: none deleted, none meets the check", unmet,
                t -> t.delete(Sample.NO_ROW), 0);
        Consumer<StatementTables> faulty = Sample.with(t -> {
            Terms.express(t, Sample.E, "1 p2 / 1 or");
            t.check(Sample.E);
            t.parameter(2, 0);
        });
        BOUNDS.changes("26: the check is a fault for rows left", faulty,
                t -> t.delete(Sample.BELOW_0), 2, "rows");
    }
}
