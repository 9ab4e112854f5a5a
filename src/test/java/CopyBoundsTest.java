import java.util.function.Consumer;

/** Promise 12, and of 26 what is about copy: every sentence that names a bound or a refusal. */
public final class CopyBoundsTest {
    private static final Due DUE = new Due();
    private static final Bounds BOUNDS = new Bounds(DUE);
    private static final int BAD_ARG = StatementTables.BAD_ARG;
    private static final int FULL = StatementTables.FULL;
    private static final int FAULT = StatementTables.FAULT;
    private static final int BAD_KEY = StatementTables.BAD_KEY;
    private static final int NOT_UNIQUE = StatementTables.NOT_UNIQUE;
    private static final int UNCHECKED = StatementTables.UNCHECKED;
    private static final int MAX = Integer.MAX_VALUE;
    private static final int MIN = Integer.MIN_VALUE;
    private static final int W = Sample.W;
    private static final int E = Sample.E;
    /** For every row of the sample a key that is free. */
    private static final String FREE = "key 2 / 1 +";
    private static final int[] FREE_KEYS = {-24, -2, 1, 2, 11, 26};

    public static void main(String[] args) {
        expressions();
        faultOfW();
        faultOfE();
        faultBeforeTheRest();
        mostRows();
        fullBeforeTheRest();
        keyOutOfRange();
        keyTwice();
        keyBeforeTheRest();
        unique();
        uniqueBeforeUnchecked();
        checkRefused();
        checkOfOtherRows();
        rowsBeforeTheStatement();
        howMany();
        DUE.end();
    }

    /** The sample with unique off, these terms as W and E, and the check's parameter p2. */
    private static Consumer<StatementTables> sample(String w, String e, int p2) {
        return Sample.with(t -> set(t, w, e, p2));
    }

    private static Consumer<StatementTables> sample(String w, String e) {
        return sample(w, e, 70);
    }

    private static Consumer<StatementTables> full(String w, String e, int p2) {
        return Sample.full(t -> set(t, w, e, p2));
    }

    private static Consumer<StatementTables> withUnique(Consumer<StatementTables> before) {
        return t -> {
            before.accept(t);
            t.unique(1);
        };
    }

    private static void set(StatementTables t, String w, String e, int p2) {
        Terms.express(t, W, w);
        Terms.express(t, E, e);
        t.parameter(2, p2);
        t.unique(0);
    }

    /** "one that is not 0 to 7 answers BAD_ARG before anything else". */
    private static void expressions() {
        for (int bad : new int[] {-1, 8, 9, MIN, MAX}) {
            BOUNDS.refused("12: w " + bad, sample("1", "30"), t -> t.copy(bad, E), BAD_ARG);
            BOUNDS.refused("12: e " + bad, sample("key 3 =", "30"), t -> t.copy(W, bad), BAD_ARG);
            BOUNDS.refused("12: w before the fault of e", sample("1", Terms.FAULT),
                    t -> t.copy(bad, E), BAD_ARG);
            BOUNDS.refused("12: e before the fault of w", sample(Terms.FAULT, "1"),
                    t -> t.copy(W, bad), BAD_ARG);
            BOUNDS.refused("12: e though no row meets w", sample("0", "1"), t -> t.copy(W, bad),
                    BAD_ARG);
            BOUNDS.refused("12: e before FULL", full("1", "1", 70), t -> t.copy(W, bad), BAD_ARG);
            BOUNDS.refused("12: e before UNCHECKED", sample("0", "1", -99), t -> t.copy(W, bad),
                    BAD_ARG);
            DUE.due("12: w, no row", new StatementTables().copy(bad, 0), BAD_ARG);
            DUE.due("12: e, no row", new StatementTables().copy(0, bad), BAD_ARG);
        }
        BOUNDS.changes("12: w 7, e 0", sample("1", "key 3 ="), t -> t.copy(7, 0), 1, "rows");
    }

    /** "FAULT as for update": w is a fault for some row. */
    private static void faultOfW() {
        for (int k : Sample.KEYS) {
            for (String elsewhere : new String[] {"1", "0"}) {
                BOUNDS.refused("12: w is a fault at " + k,
                        sample(Sample.at(k, Terms.FAULT, elsewhere), FREE), t -> t.copy(W, E),
                        FAULT);
            }
        }
    }

    /** "FAULT as for update": e is a fault for a row that meets w. */
    private static void faultOfE() {
        for (int k : Sample.KEYS) {
            String faulty = Sample.at(k, Terms.FAULT, FREE);
            BOUNDS.refused("12: e is a fault at " + k, sample("1", faulty), t -> t.copy(W, E),
                    FAULT);
            BOUNDS.refused("12: only " + k + " meets w", sample("key " + k + " =", faulty),
                    t -> t.copy(W, E), FAULT);
            BOUNDS.leaves("12: no row meets w", sample("0", faulty), t -> t.copy(W, E), 0);
        }
        BOUNDS.changes("12: e is a fault for rows that do not meet w",
                sample("key 3 =", Sample.at(3, "30", Terms.FAULT)), t -> t.copy(W, E), 1, "rows");
        StatementTables t = new StatementTables();
        Terms.express(t, 1, Terms.FAULT);
        DUE.due("12: no row, no fault", t.copy(1, 1), 0);
    }

    /** FAULT before FULL, BAD_KEY, NOT_UNIQUE and UNCHECKED, for all rows first. */
    private static void faultBeforeTheRest() {
        for (int k : new int[] {-50, 3, 50}) {
            String fault = Sample.at(k, Terms.FAULT, "99");
            BOUNDS.refused("12: FAULT of w before FULL", full(fault, "30", 70),
                    t -> t.copy(W, E), FAULT);
            BOUNDS.refused("12: FAULT of e before FULL", full("1", fault, 70),
                    t -> t.copy(W, E), FAULT);
            BOUNDS.refused("12: FAULT of w before BAD_KEY", sample(fault, "99"),
                    t -> t.copy(W, E), FAULT);
            BOUNDS.refused("12: FAULT of e before BAD_KEY", sample("1", fault),
                    t -> t.copy(W, E), FAULT);
            String keysFree = Sample.at(k, Terms.FAULT, FREE);
            BOUNDS.refused("12: FAULT before NOT_UNIQUE", withUnique(sample("1", keysFree)),
                    t -> t.copy(W, E), FAULT);
            BOUNDS.refused("12: FAULT before UNCHECKED", sample("1", keysFree, -99),
                    t -> t.copy(W, E), FAULT);
        }
    }

    /** "there would be more than 40 rows answers FULL". */
    private static void mostRows() {
        BOUNDS.refused("12: 41 rows", full("key 3 =", "30", 70), t -> t.copy(W, E), FULL);
        BOUNDS.refused("12: 80 rows", full("1", "30", 70), t -> t.copy(W, E), FULL);
        BOUNDS.leaves("12: no further row at 40", full("0", "30", 70), t -> t.copy(W, E), 0);
        for (int rows = 19; rows <= 22; rows++) {
            int number = rows;
            Consumer<StatementTables> before = t -> {
                for (int k = 0; k < number; k++) {
                    t.insert(k, k, -k, 2 * k);
                }
                Terms.express(t, W, "1");
                Terms.express(t, E, "key neg 1 -");
            };
            if (rows <= 20) {
                BOUNDS.changes("12: twice " + rows, before, t -> t.copy(W, E), rows, "rows");
            } else {
                BOUNDS.refused("12: twice " + rows, before, t -> t.copy(W, E), FULL);
            }
        }
        Consumer<StatementTables> at39 = t -> {
            full("key 7 =", "30", 70).accept(t);
            t.delete(W);
            Terms.express(t, W, "key 3 =");
        };
        BOUNDS.changes("12: the 40th row", at39, t -> t.copy(W, E), 1, "rows");
    }

    /** FULL before BAD_KEY, NOT_UNIQUE and UNCHECKED. */
    private static void fullBeforeTheRest() {
        BOUNDS.refused("12: FULL before BAD_KEY, range", full("key 3 =", "51", 70),
                t -> t.copy(W, E), FULL);
        BOUNDS.refused("12: FULL before BAD_KEY, twice", full("key 3 =", "3", 70),
                t -> t.copy(W, E), FULL);
        BOUNDS.refused("12: FULL before NOT_UNIQUE", withUnique(full("key 3 =", "30", 70)),
                t -> t.copy(W, E), FULL);
        BOUNDS.refused("12: FULL before UNCHECKED", full("key 3 =", "30", -99),
                t -> t.copy(W, E), FULL);
    }

    /** "A key would be out of its range". */
    private static void keyOutOfRange() {
        for (int k : Sample.KEYS) {
            for (String to : new String[] {"51", "-51", "99", "-99"}) {
                BOUNDS.refused("12: " + k + " to " + to, sample("1", Sample.at(k, to, FREE)),
                        t -> t.copy(W, E), BAD_KEY);
            }
        }
        for (int key : new int[] {MIN, MAX, 65536 + 8, 256 + 8, BAD_KEY}) {
            BOUNDS.refused("12: key " + key, Sample.with(t -> {
                set(t, "key 3 =", "p1", 70);
                t.parameter(1, key);
            }), t -> t.copy(W, E), BAD_KEY);
        }
        for (int k : new int[] {-50, 50}) {
            Consumer<StatementTables> before = t -> {
                t.insert(0, 1, 2, 3);
                Terms.express(t, E, "" + k);
            };
            BOUNDS.changes("12: to " + k, before, t -> t.copy(0, E), 1, "rows");
        }
    }

    /** "or two rows would have the same". */
    private static void keyTwice() {
        for (int k : Sample.KEYS) {
            BOUNDS.refused("12: the key " + k + " of a row", sample("key 3 =", "" + k),
                    t -> t.copy(W, E), BAD_KEY);
            BOUNDS.refused("12: its own key", sample("key " + k + " =", "key"),
                    t -> t.copy(W, E), BAD_KEY);
            if (k != 3) {
                BOUNDS.refused("12: two to a free key", sample("key 3 = key " + k + " = or",
                        "30"), t -> t.copy(W, E), BAD_KEY);
            }
        }
        BOUNDS.refused("12: the rows themselves stay", sample("key 3 = key 20 = or", "23 key -"),
                t -> t.copy(W, E), BAD_KEY);
        BOUNDS.changes("12: a key that is free", sample("key 3 =", "4"), t -> t.copy(W, E), 1,
                "rows");
        StatementTables t = new StatementTables();
        sample("key 3 =", "-7").accept(t);
        t.delete(Sample.BELOW_0);
        DUE.due("12: the key of a deleted row", t.copy(W, E), 1);
        DUE.due("12: no deleted row is back", t.rows(), 5);
        DUE.due("12: no deleted row is back", t.value(-50, 3), StatementTables.NONE);
        DUE.due("12: the row copied", t.value(-7, 3), 14);
    }

    /** BAD_KEY before NOT_UNIQUE and UNCHECKED, for all rows first. */
    private static void keyBeforeTheRest() {
        for (int k : Sample.KEYS) {
            String range = Sample.at(k, "51", FREE);
            BOUNDS.refused("12: BAD_KEY before NOT_UNIQUE", withUnique(sample("1", range)),
                    t -> t.copy(W, E), BAD_KEY);
            BOUNDS.refused("12: BAD_KEY before UNCHECKED", sample("1", range, -99),
                    t -> t.copy(W, E), BAD_KEY);
            String taken = "" + k;
            BOUNDS.refused("12: BAD_KEY before NOT_UNIQUE", withUnique(sample("key 3 =", taken)),
                    t -> t.copy(W, E), BAD_KEY);
            BOUNDS.refused("12: BAD_KEY before UNCHECKED", sample("key 3 =", taken, -99),
                    t -> t.copy(W, E), BAD_KEY);
        }
    }

    /** "NOT_UNIQUE": the further row has the same c as its row. */
    private static void unique() {
        for (int k : Sample.KEYS) {
            BOUNDS.refused("12: a copy of " + k, withUnique(sample("key " + k + " =", "30")),
                    t -> t.copy(W, E), NOT_UNIQUE);
        }
        BOUNDS.leaves("12: no further row", withUnique(sample("0", "30")), t -> t.copy(W, E), 0);
    }

    /** NOT_UNIQUE before UNCHECKED, whichever row would fail the check. */
    private static void uniqueBeforeUnchecked() {
        for (int least : new int[] {12, 17, -99}) {
            BOUNDS.refused("12: NOT_UNIQUE before UNCHECKED",
                    withUnique(sample("key 3 =", "30", least)), t -> t.copy(W, E), NOT_UNIQUE);
        }
    }

    /** "UNCHECKED": the further row has another key, which the check may not take. */
    private static void checkRefused() {
        for (String check : new String[] {"key 30 -", "1 key 30 - / 1 or"}) {
            for (int k : Sample.KEYS) {
                Consumer<StatementTables> before = sample("key " + k + " =", "p1");
                BOUNDS.refused("12: the check " + check, t -> {
                    before.accept(t);
                    checkBy(t, check);
                    t.parameter(1, 30);
                }, t -> t.copy(W, E), UNCHECKED);
                BOUNDS.changes("12: taken by the check " + check, t -> {
                    before.accept(t);
                    checkBy(t, check);
                    t.parameter(1, 31);
                }, t -> t.copy(W, E), 1, "rows");
            }
        }
    }

    private static void checkBy(StatementTables t, String words) {
        Terms.express(t, Sample.A, words);
        t.check(Sample.A);
    }

    /** "UNCHECKED is tested for every row ..., also for rows that do not change". */
    private static void checkOfOtherRows() {
        for (int least : new int[] {12, 17, -99}) {
            BOUNDS.refused("26: rows that stay", sample("key -50 =", "30", least),
                    t -> t.copy(W, E), UNCHECKED);
            BOUNDS.refused("26: no further row", sample("0", "30", least), t -> t.copy(W, E),
                    UNCHECKED);
        }
        BOUNDS.changes("26: all meet it", sample("key -50 =", "30", 18), t -> t.copy(W, E), 1,
                "rows");
    }

    /** "for the rows as they are before it": a further row is not copied again. */
    private static void rowsBeforeTheStatement() {
        StatementTables t = new StatementTables();
        t.insert(1, 5, 6, 7);
        t.insert(-1, 8, 9, 10);
        Terms.express(t, 1, "key 2 *");
        DUE.due("12: how many", t.copy(0, 1), 2);
        DUE.due("12: rows", t.rows(), 4);
        DUE.due("12: copy of 1", t.value(2, 3), 7);
        DUE.due("12: copy of -1", t.value(-2, 3), 10);
        DUE.due("12: no copy of the copy", t.value(4, 3), StatementTables.NONE);
        DUE.due("12: no copy of the copy", t.value(-4, 3), StatementTables.NONE);
    }

    /** "Otherwise how many", each "with the value of e as its key and the same a, b, c". */
    private static void howMany() {
        BOUNDS.leaves("12: none", sample("0", "30"), t -> t.copy(W, E), 0);
        DUE.due("12: no row", new StatementTables().copy(0, 0), 0);
        StatementTables t = new StatementTables();
        sample("1", FREE).accept(t);
        DUE.due("12: all", t.copy(W, E), 6);
        DUE.due("12: rows", t.rows(), 12);
        for (int i = 0; i < Sample.KEYS.length; i++) {
            DUE.due("12: key", t.value(FREE_KEYS[i], 0), FREE_KEYS[i]);
            for (int col = 1; col <= 3; col++) {
                DUE.due("12: column " + col, t.value(FREE_KEYS[i], col),
                        t.value(Sample.KEYS[i], col));
            }
        }
    }
}
