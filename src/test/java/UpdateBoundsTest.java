import java.util.function.Consumer;

/** Promise 11, and of 26 what is about update: every sentence that names a bound or a refusal. */
public final class UpdateBoundsTest {
    private static final Due DUE = new Due();
    private static final Bounds BOUNDS = new Bounds(DUE);
    private static final int BAD_ARG = StatementTables.BAD_ARG;
    private static final int FAULT = StatementTables.FAULT;
    private static final int BAD_KEY = StatementTables.BAD_KEY;
    private static final int NOT_UNIQUE = StatementTables.NOT_UNIQUE;
    private static final int UNCHECKED = StatementTables.UNCHECKED;
    private static final int NONE = StatementTables.NONE;
    private static final int MAX = Integer.MAX_VALUE;
    private static final int MIN = Integer.MIN_VALUE;
    private static final int W = Sample.W;
    private static final int E = Sample.E;

    public static void main(String[] args) {
        expressions();
        column();
        columnFirst();
        faultOfW();
        faultOfE();
        faultBeforeTheRest();
        keyOutOfRange();
        keyTwice();
        keyBeforeUnchecked();
        keysAllAtOnce();
        uniqueRefused();
        uniqueAllAtOnce();
        uniqueBeforeUnchecked();
        checkRefused();
        checkOfOtherRows();
        howMany();
        values();
        DUE.end();
    }

    /** The sample with these terms as W and E, and the parameter p2 that the check asks for. */
    private static Consumer<StatementTables> sample(String w, String e, int p2) {
        return Sample.with(t -> {
            Terms.express(t, W, w);
            Terms.express(t, E, e);
            t.parameter(2, p2);
        });
    }

    private static Consumer<StatementTables> sample(String w, String e) {
        return sample(w, e, 70);
    }

    /** "one that is not 0 to 7 answers BAD_ARG before anything else". */
    private static void expressions() {
        for (int bad : new int[] {-1, 8, 9, MIN, MAX}) {
            BOUNDS.refused("11: w " + bad, Sample.plain(), t -> t.update(bad, 1, E), BAD_ARG);
            BOUNDS.refused("11: e " + bad, Sample.plain(), t -> t.update(W, 1, bad), BAD_ARG);
            BOUNDS.refused("11: w before the fault of e", sample("1", Terms.FAULT),
                    t -> t.update(bad, 1, E), BAD_ARG);
            BOUNDS.refused("11: e before the fault of w", sample(Terms.FAULT, "1"),
                    t -> t.update(W, 1, bad), BAD_ARG);
            BOUNDS.refused("11: e though no row meets w", sample("0", "1"),
                    t -> t.update(W, 1, bad), BAD_ARG);
            BOUNDS.refused("11: e before UNCHECKED", sample("1", "1", -99),
                    t -> t.update(W, 1, bad), BAD_ARG);
            DUE.due("11: w, no row", new StatementTables().update(bad, 1, 0), BAD_ARG);
            DUE.due("11: e, no row", new StatementTables().update(0, 1, bad), BAD_ARG);
        }
        BOUNDS.changes("11: w 0, e 7", sample("1", "9"), t -> t.update(0, 1, 7), 6, "rows");
        BOUNDS.changes("11: w 7, e 0", sample("1", "9"), t -> t.update(7, 1, 0), 6, "rows");
    }

    /** "col not 0 to 3 answers BAD_ARG". */
    private static void column() {
        for (int col : new int[] {-1, 4, 5, MIN, MAX}) {
            BOUNDS.refused("11: column " + col, Sample.plain(), t -> t.update(W, col, E),
                    BAD_ARG);
            DUE.due("11: column, no row", new StatementTables().update(0, col, 0), BAD_ARG);
        }
        for (int col = 0; col <= 3; col++) {
            int good = col;
            BOUNDS.changes("11: column " + col, sample("key 3 =", "33"),
                    t -> t.update(W, good, E), 1, "rows");
        }
    }

    /** "Tested in this order": the column before FAULT and UNCHECKED. */
    private static void columnFirst() {
        for (int col : new int[] {-1, 4}) {
            BOUNDS.refused("11: BAD_ARG before FAULT of w", sample(Terms.FAULT, "1"),
                    t -> t.update(W, col, E), BAD_ARG);
            BOUNDS.refused("11: BAD_ARG before FAULT of e", sample("1", Terms.FAULT),
                    t -> t.update(W, col, E), BAD_ARG);
            BOUNDS.refused("11: BAD_ARG before a bad key", sample("1", "99"),
                    t -> t.update(W, col, E), BAD_ARG);
            BOUNDS.refused("11: BAD_ARG before UNCHECKED", sample("1", "1", -99),
                    t -> t.update(W, col, E), BAD_ARG);
            BOUNDS.refused("11: BAD_ARG though no row meets w", sample("0", "1"),
                    t -> t.update(W, col, E), BAD_ARG);
        }
    }

    /** "w is a fault for some row ... answers FAULT". */
    private static void faultOfW() {
        for (int k : Sample.KEYS) {
            for (String elsewhere : new String[] {"1", "0"}) {
                BOUNDS.refused("11: w is a fault at " + k,
                        sample(Sample.at(k, Terms.FAULT, elsewhere), "9"),
                        t -> t.update(W, 1, E), FAULT);
            }
        }
    }

    /** "or e for one that meets w, answers FAULT"; for others e is not worked out. */
    private static void faultOfE() {
        for (int k : Sample.KEYS) {
            String faulty = Sample.at(k, Terms.FAULT, "9");
            BOUNDS.refused("11: e is a fault at " + k, sample("1", faulty),
                    t -> t.update(W, 1, E), FAULT);
            BOUNDS.refused("11: only " + k + " meets w", sample("key " + k + " =", faulty),
                    t -> t.update(W, 1, E), FAULT);
            BOUNDS.changes("11: all but " + k + " meet w",
                    sample("key " + k + " = not", faulty), t -> t.update(W, 1, E), 5, "rows");
        }
        BOUNDS.leaves("11: no row meets w", sample("0", Terms.FAULT), t -> t.update(W, 1, E), 0);
        StatementTables t = new StatementTables();
        Terms.express(t, 1, Terms.FAULT);
        DUE.due("11: no row, no fault", t.update(1, 0, 1), 0);
    }

    /** FAULT before BAD_KEY, NOT_UNIQUE and UNCHECKED, for all rows first. */
    private static void faultBeforeTheRest() {
        for (int k : Sample.KEYS) {
            String fault = Sample.at(k, Terms.FAULT, "99");
            BOUNDS.refused("11: FAULT of w before BAD_KEY", sample(fault, "99"),
                    t -> t.update(W, 0, E), FAULT);
            BOUNDS.refused("11: FAULT of e before BAD_KEY", sample("1", fault),
                    t -> t.update(W, 0, E), FAULT);
            BOUNDS.refused("11: FAULT before NOT_UNIQUE", sample("1", fault, 100),
                    t -> t.update(W, 3, E), FAULT);
            BOUNDS.refused("11: FAULT before UNCHECKED", sample("1", fault, -99),
                    t -> t.update(W, 1, E), FAULT);
        }
    }

    /** "A key would be out of its range". */
    private static void keyOutOfRange() {
        for (int k : Sample.KEYS) {
            for (String to : new String[] {"51", "-51", "99", "-99"}) {
                BOUNDS.refused("11: key " + k + " to " + to, sample("1", Sample.at(k, to, "key")),
                        t -> t.update(W, 0, E), BAD_KEY);
            }
        }
        for (int key : new int[] {MIN, MAX, 65536 + 8, 256 + 8, BAD_KEY}) {
            BOUNDS.refused("11: key " + key, sample("key 3 =", "p2", key),
                    t -> t.update(W, 0, E), BAD_KEY);
        }
        BOUNDS.changes("11: to the highest", sample("1", Sample.at(50, "49", Sample.at(3, "50",
                "key"))), t -> t.update(W, 0, E), 6, "rows");
        BOUNDS.changes("11: to the lowest", sample("1", Sample.at(-50, "-49", Sample.at(3, "-50",
                "key"))), t -> t.update(W, 0, E), 6, "rows");
    }

    /** "or two rows would have the same". */
    private static void keyTwice() {
        for (int k : Sample.KEYS) {
            if (k != 3) {
                BOUNDS.refused("11: the key of a row that stays", sample("key 3 =", "" + k),
                        t -> t.update(W, 0, E), BAD_KEY);
                BOUNDS.refused("11: the key of a row that keeps it",
                        sample("1", Sample.at(3, "" + k, "key")), t -> t.update(W, 0, E),
                        BAD_KEY);
                BOUNDS.refused("11: two to a free key",
                        sample("key 3 = key " + k + " = or", "30"), t -> t.update(W, 0, E),
                        BAD_KEY);
            }
        }
        BOUNDS.leaves("11: each to its own key", sample("1", "key"), t -> t.update(W, 0, E), 6);
        StatementTables t = new StatementTables();
        sample("key 3 =", "-7").accept(t);
        t.delete(Sample.BELOW_0);
        DUE.due("11: the key of a deleted row", t.update(W, 0, E), 1);
        DUE.due("11: no deleted row is back", t.rows(), 4);
        DUE.due("11: no deleted row is back", t.value(-50, 3), StatementTables.NONE);
        DUE.due("11: the row moved", t.value(-7, 3), 14);
    }

    /** BAD_KEY before UNCHECKED; no change of keys can break UNIQUE. */
    private static void keyBeforeUnchecked() {
        for (int k : Sample.KEYS) {
            BOUNDS.refused("11: BAD_KEY before UNCHECKED, range",
                    sample("1", Sample.at(k, "51", "key"), -99), t -> t.update(W, 0, E), BAD_KEY);
        }
        BOUNDS.refused("11: BAD_KEY before UNCHECKED, twice", sample("key 20 =", "50", -99),
                t -> t.update(W, 0, E), BAD_KEY);
        BOUNDS.refused("11: UNCHECKED then", sample("key 20 =", "49", -99),
                t -> t.update(W, 0, E), UNCHECKED);
    }

    /** "changes rows all at once": a key may become one that another row gives up. */
    private static void keysAllAtOnce() {
        movesKeys("23 key -", "key 3 = key 20 = or", new int[] {-50, -7, 0, 20, 3, 50});
        movesKeys("key neg", "key 50 = key -50 = or", new int[] {50, -7, 0, 3, 20, -50});
        movesKeys("key -7 = 0 key 0 = 3 -7 choose choose", "key -7 = key 0 = or key 3 = or",
                new int[] {-50, 0, 3, -7, 20, 50});
        for (String step : new String[] {"1", "-1"}) {
            StatementTables t = new StatementTables();
            for (int k = -20; k < 20; k++) {
                t.insert(k, k, 0, 0);
            }
            Terms.express(t, 1, "key " + step + " +");
            DUE.due("11: 40 keys by " + step, t.update(0, 0, 1), 40);
            for (int k = -20; k < 20; k++) {
                DUE.due("11: row " + k, t.value(k + Integer.parseInt(step), 1), k);
            }
            DUE.due("11: 40 rows still", t.rows(), 40);
        }
    }

    /** After the update the row that had KEYS[i] has keys[i], with its values. */
    private static void movesKeys(String e, String w, int[] keys) {
        StatementTables before = new StatementTables();
        sample(w, e).accept(before);
        StatementTables t = new StatementTables();
        sample(w, e).accept(t);
        t.update(W, 0, E);
        for (int i = 0; i < keys.length; i++) {
            DUE.due("11: column 0 by " + e, t.value(keys[i], 0), keys[i]);
            for (int col = 1; col <= 3; col++) {
                DUE.due("11: column " + col + " by " + e, t.value(keys[i], col),
                        before.value(Sample.KEYS[i], col));
            }
        }
        DUE.due("11: rows", t.rows(), 6);
    }

    /** "NOT_UNIQUE": two rows would have the same c. */
    private static void uniqueRefused() {
        for (String w : new String[] {"1", "key 3 = not", "key 20 < not", "key 0 <"}) {
            BOUNDS.refused("11: one c for all that meet " + w, sample(w, "5"),
                    t -> t.update(W, 3, E), NOT_UNIQUE);
        }
        for (String c : new String[] {"11", "12", "13", "16", "17"}) {
            BOUNDS.refused("11: the c of a row that stays", sample("key 3 =", c),
                    t -> t.update(W, 3, E), NOT_UNIQUE);
        }
        BOUNDS.changes("11: unique is off", Sample.with(t -> t.unique(0)),
                t -> t.update(Sample.ALL, 3, Sample.ALL), 6, "rows");
        for (int col = 1; col <= 2; col++) {
            int good = col;
            BOUNDS.changes("11: unique is for c alone", sample("1", "11"),
                    t -> t.update(W, good, E), 6, "rows");
        }
    }

    /** A c may become one that another row gives up. */
    private static void uniqueAllAtOnce() {
        BOUNDS.changes("11: every c by one up", sample("1", "c 1 +"), t -> t.update(W, 3, E), 6,
                "rows");
        BOUNDS.changes("11: every c by one down", sample("1", "c 1 -"), t -> t.update(W, 3, E), 6,
                "rows");
        BOUNDS.changes("11: two swapped", sample("c 11 = c 17 = or", "28 c -"),
                t -> t.update(W, 3, E), 2, "rows");
        BOUNDS.leaves("11: each its own", sample("1", "c"), t -> t.update(W, 3, E), 6);
    }

    /** NOT_UNIQUE before UNCHECKED, for all rows first. */
    private static void uniqueBeforeUnchecked() {
        for (int k : new int[] {-50, 0, 50}) {
            BOUNDS.refused("11: NOT_UNIQUE before UNCHECKED", sample("1", Sample.at(k, "70", "5")),
                    t -> t.update(W, 3, E), NOT_UNIQUE);
            BOUNDS.refused("11: NOT_UNIQUE before UNCHECKED of rows that stay",
                    sample("key " + k + " =", "17", 12), t -> t.update(W, 3, E), NOT_UNIQUE);
        }
    }

    /** "UNCHECKED": a row would not meet the check, be it by 0 or by a fault. */
    private static void checkRefused() {
        for (int k : Sample.KEYS) {
            BOUNDS.refused("11: check is 0 at " + k, sample("1", Sample.at(k, "70", "c")),
                    t -> t.update(W, 3, E), UNCHECKED);
            BOUNDS.refused("11: only " + k + " meets w", sample("key " + k + " =", "70"),
                    t -> t.update(W, 3, E), UNCHECKED);
            BOUNDS.changes("11: check is 1 at " + k, sample("1", Sample.at(k, "69", "c")),
                    t -> t.update(W, 3, E), 6, "rows");
            Consumer<StatementTables> fault = Sample.with(t -> {
                Terms.express(t, W, "1 b 6 - / 1 or");
                t.check(W);
                Terms.express(t, E, Sample.at(k, "6", "b"));
            });
            BOUNDS.refused("11: check is a fault at " + k, fault,
                    t -> t.update(Sample.ALL, 2, E), UNCHECKED);
        }
        Consumer<StatementTables> ofNewKey = Sample.with(t -> {
            Terms.express(t, W, "key 21 = not");
            t.check(W);
            Terms.express(t, W, "key 50 <");
        });
        BOUNDS.refused("11: check of the new key", ofNewKey,
                t -> t.update(W, 0, Sample.NEXT_KEY), UNCHECKED);
    }

    /** "UNCHECKED is tested for every row ..., also for rows that do not change". */
    private static void checkOfOtherRows() {
        for (int least : new int[] {12, 17, -99}) {
            BOUNDS.refused("26: the row that changes meets it", sample("key 3 =", "-99", least),
                    t -> t.update(W, 3, E), UNCHECKED);
            BOUNDS.refused("26: another column", sample("key 3 =", "5", least),
                    t -> t.update(W, 1, E), UNCHECKED);
            BOUNDS.refused("26: no row changes", sample("0", "5", least),
                    t -> t.update(W, 1, E), UNCHECKED);
        }
        BOUNDS.changes("26: the one row that does not meet it changes",
                sample("key 20 =", "0", 17), t -> t.update(W, 3, E), 1, "rows");
    }

    /** "Otherwise how many rows meet w", changed or not. */
    private static void howMany() {
        BOUNDS.leaves("11: none", sample("0", "9"), t -> t.update(W, 1, E), 0);
        BOUNDS.leaves("11: all, to what they are", sample("1", "a"), t -> t.update(W, 1, E), 6);
        BOUNDS.changes("11: all of 40", Sample.full(t -> Terms.express(t, E, "77")),
                t -> t.update(Sample.ALL, 1, E), 40, "rows");
        DUE.due("11: no row", new StatementTables().update(0, 1, 0), 0);
    }

    /** A value is any int, also that of a code; a row that does not meet w keeps its own. */
    private static void values() {
        for (int x : new int[] {MIN, MAX, 0, -1, FAULT, BAD_ARG, NONE, BAD_KEY}) {
            for (int col = 1; col <= 3; col++) {
                StatementTables t = new StatementTables();
                t.insert(1, 21, 22, 23);
                t.insert(2, 31, 32, 33);
                t.parameter(0, x);
                Terms.express(t, 1, "p0");
                Terms.express(t, 2, "key 1 =");
                DUE.due("11: value " + x, t.update(2, col, 1), 1);
                for (int other = 1; other <= 3; other++) {
                    DUE.due("11: value " + x, t.value(1, other), other == col ? x : 20 + other);
                    DUE.due("11: the other row", t.value(2, other), 30 + other);
                }
            }
        }
    }
}
