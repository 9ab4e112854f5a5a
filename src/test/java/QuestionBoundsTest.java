import java.util.function.Consumer;
import java.util.function.ToIntFunction;

/** Promises 19 to 25, and of 26 what is about them: every bound and refusal that is named. */
public final class QuestionBoundsTest {
    private static final Due DUE = new Due();
    private static final Bounds BOUNDS = new Bounds(DUE);
    private static final int BAD_ARG = StatementTables.BAD_ARG;
    private static final int NONE = StatementTables.NONE;
    private static final int FAULT = StatementTables.FAULT;
    private static final int MAX = Integer.MAX_VALUE;
    private static final int MIN = Integer.MIN_VALUE;
    private static final int[] BAD = {-1, 8, 9, MIN, MAX};
    private static final int W = Sample.W;
    private static final int E = Sample.E;

    /** sum, greatest or different. */
    private interface OverRows {
        int ask(StatementTables t, int w, int e);
    }

    public static void main(String[] args) {
        rows();
        valueColumn();
        valueNoRow();
        valueOrder();
        countBounds();
        overRowsExpressions("22: sum", StatementTables::sum);
        overRowsExpressions("23: greatest", StatementTables::greatest);
        overRowsExpressions("24: different", StatementTables::different);
        overRowsFault("22: sum", StatementTables::sum, 0);
        overRowsFault("23: greatest", StatementTables::greatest, 0);
        overRowsFault("24: different", StatementTables::different, 1);
        overRowsNumber("22: sum", StatementTables::sum, 0, 39, -8);
        overRowsNumber("23: greatest", StatementTables::greatest, NONE, 39, 5);
        overRowsNumber("24: different", StatementTables::different, 0, 1, 4);
        sumWraps();
        greatestOfAll();
        greatestFaultBeforeNone();
        differentNumber();
        keyExpression();
        keyFault();
        keyNone();
        keyOrder();
        keyRisingOrFalling();
        DUE.end();
    }

    private static Consumer<StatementTables> sample(String w, String e) {
        return Sample.with(t -> {
            Terms.express(t, W, w);
            Terms.express(t, E, e);
        });
    }

    /** A number that one row has in every column but the key. */
    private static int ofOneRow(int x, String w, String e, ToIntFunction<StatementTables> call) {
        StatementTables t = new StatementTables();
        t.insert(1, x, x, x);
        Terms.express(t, W, w);
        Terms.express(t, E, e);
        return call.applyAsInt(t);
    }

    /** "The number of rows." */
    private static void rows() {
        BOUNDS.leaves("19: no row", t -> { }, t -> t.rows(), 0);
        BOUNDS.leaves("19: six", Sample.plain(), t -> t.rows(), 6);
        BOUNDS.leaves("19: 40", Sample.full(t -> { }), t -> t.rows(), 40);
        BOUNDS.leaves("19: all deleted", Sample.full(t -> t.delete(Sample.ALL)), t -> t.rows(),
                0);
    }

    /** "BAD_ARG if col is not 0 to 3". */
    private static void valueColumn() {
        for (int col : new int[] {-1, 4, 5, MIN, MAX}) {
            BOUNDS.refused("20: column " + col, Sample.plain(), t -> t.value(3, col), BAD_ARG);
        }
        int[] due = {3, 8, 8, 14};
        for (int col = 0; col <= 3; col++) {
            int good = col;
            BOUNDS.leaves("20: column " + col, Sample.plain(), t -> t.value(3, good), due[col]);
        }
        for (int x : new int[] {MIN, MAX, NONE, BAD_ARG}) {
            for (int col = 1; col <= 3; col++) {
                int good = col;
                DUE.due("20: any int", ofOneRow(x, "1", "1", t -> t.value(1, good)), x);
            }
        }
    }

    /** "NONE if there is none". */
    private static void valueNoRow() {
        for (int k : new int[] {-51, 51, -49, 49, 1, -1, 101, MIN, MAX}) {
            BOUNDS.refused("20: no row " + k, Sample.plain(), t -> t.value(k, 1), NONE);
        }
        for (int k : Sample.KEYS) {
            BOUNDS.leaves("20: row " + k, Sample.plain(), t -> t.value(k, 0), k);
            DUE.due("20: a row of zeroes at " + k, zeroes(k).value(k, 1), 0);
        }
        BOUNDS.refused("20: a deleted row", Sample.with(t -> t.delete(Sample.BELOW_0)),
                t -> t.value(-50, 1), NONE);
        BOUNDS.refused("20: a row of a place", Sample.with(t -> t.load(0)), t -> t.value(50, 1),
                NONE);
    }

    private static StatementTables zeroes(int k) {
        StatementTables t = new StatementTables();
        t.insert(k, 0, 0, 0);
        return t;
    }

    /** "BAD_ARG ..., tested first". */
    private static void valueOrder() {
        for (int k : new int[] {-51, 51, 1, MIN, MAX}) {
            for (int col : new int[] {-1, 4}) {
                BOUNDS.refused("20: BAD_ARG before NONE", Sample.plain(), t -> t.value(k, col),
                        BAD_ARG);
            }
        }
    }

    /** "The number of rows that meet w; FAULT." */
    private static void countBounds() {
        for (int w : BAD) {
            BOUNDS.refused("21: w " + w, Sample.plain(), t -> t.count(w), BAD_ARG);
            DUE.due("21: w " + w + ", no row", new StatementTables().count(w), BAD_ARG);
        }
        for (int k : Sample.KEYS) {
            for (String elsewhere : new String[] {"1", "0"}) {
                BOUNDS.refused("21: a fault at " + k,
                        sample(Sample.at(k, Terms.FAULT, elsewhere), "1"), t -> t.count(W),
                        FAULT);
            }
        }
        BOUNDS.leaves("21: none", Sample.plain(), t -> t.count(Sample.NO_ROW), 0);
        BOUNDS.leaves("21: all", Sample.plain(), t -> t.count(0), 6);
        BOUNDS.leaves("21: all by 7", sample("1", "-1"), t -> t.count(7), 6);
        BOUNDS.leaves("21: all of 40", Sample.full(t -> { }), t -> t.count(Sample.ALL), 40);
        BOUNDS.leaves("21: no row, no fault", t -> Terms.express(t, W, Terms.FAULT),
                t -> t.count(W), 0);
        for (int x : new int[] {1, -1, 256, 65536, MIN, MAX, FAULT}) {
            DUE.due("21: " + x + " is not 0", ofOneRow(x, "a", "1", t -> t.count(W)), 1);
        }
        DUE.due("21: 0 is", ofOneRow(0, "a", "1", t -> t.count(W)), 0);
        DUE.due("21: 0 by wrapping is", ofOneRow(65536, "a b *", "1", t -> t.count(W)), 0);
    }

    /** "one that is not 0 to 7 answers BAD_ARG before anything else". */
    private static void overRowsExpressions(String what, OverRows asked) {
        for (int bad : BAD) {
            BOUNDS.refused(what + ": w", Sample.plain(), t -> asked.ask(t, bad, E), BAD_ARG);
            BOUNDS.refused(what + ": e", Sample.plain(), t -> asked.ask(t, W, bad), BAD_ARG);
            BOUNDS.refused(what + ": w before the fault of e", sample("1", Terms.FAULT),
                    t -> asked.ask(t, bad, E), BAD_ARG);
            BOUNDS.refused(what + ": e before the fault of w", sample(Terms.FAULT, "1"),
                    t -> asked.ask(t, W, bad), BAD_ARG);
            BOUNDS.refused(what + ": e though no row meets w", sample("0", "1"),
                    t -> asked.ask(t, W, bad), BAD_ARG);
            DUE.due(what + ": w, no row", asked.ask(new StatementTables(), bad, 0), BAD_ARG);
            DUE.due(what + ": e, no row", asked.ask(new StatementTables(), 0, bad), BAD_ARG);
        }
        DUE.due(what + ": expressions 7 and 0", ofOneRow(1, "1", "1", t -> asked.ask(t, 7, 0)),
                1);
    }

    /** "FAULT if w is one for some row, or e for one that meets w"; ofZeroes: of two rows. */
    private static void overRowsFault(String what, OverRows asked, int ofZeroes) {
        for (int k : Sample.KEYS) {
            String fault = Sample.at(k, Terms.FAULT, "1");
            BOUNDS.refused(what + ": w is a fault at " + k, sample(fault, "1"),
                    t -> asked.ask(t, W, E), FAULT);
            BOUNDS.refused(what + ": no row meets w, a fault at " + k,
                    sample(Sample.at(k, Terms.FAULT, "0"), "1"), t -> asked.ask(t, W, E), FAULT);
            BOUNDS.refused(what + ": e is a fault at " + k, sample("1", fault),
                    t -> asked.ask(t, W, E), FAULT);
            BOUNDS.refused(what + ": only " + k + " meets w", sample("key " + k + " =", fault),
                    t -> asked.ask(t, W, E), FAULT);
        }
        BOUNDS.leaves(what + ": e is a fault for rows that do not meet w",
                sample("key 3 = key 20 = or", Sample.at(3, "0", Sample.at(20, "0", Terms.FAULT))),
                t -> asked.ask(t, W, E), ofZeroes);
    }

    /** Over no row, over one of 40, over all: -12, -1, 0, 0, 5, 0. */
    private static void overRowsNumber(String what, OverRows asked, int ofNone, int ofOne,
            int ofAll) {
        BOUNDS.leaves(what + ": no row meets w", sample("0", Terms.FAULT),
                t -> asked.ask(t, W, E), ofNone);
        BOUNDS.leaves(what + ": no row", t -> Terms.express(t, 1, Terms.FAULT),
                t -> asked.ask(t, 1, 1), ofNone);
        DUE.due(what + ": one row of 40", oneOf40(asked), ofOne);
        BOUNDS.leaves(what + ": all rows", sample("1", Sample.at(50, "0", "key 4 /")),
                t -> asked.ask(t, W, E), ofAll);
    }

    private static int oneOf40(OverRows asked) {
        StatementTables t = new StatementTables();
        for (int k = 0; k < 40; k++) {
            t.insert(k, k, 0, 0);
        }
        Terms.express(t, W, "key 39 =");
        Terms.express(t, E, "a");
        return asked.ask(t, W, E);
    }

    /** "The sum, wrapping". */
    private static void sumWraps() {
        int[][] sums = {{MAX, 1, MIN}, {MIN, -1, MAX}, {MIN, MIN, 0}, {MAX, MAX, -2},
            {FAULT, 0, FAULT}, {NONE, 0, NONE}};
        for (int[] s : sums) {
            StatementTables t = new StatementTables();
            t.insert(-50, s[0], 0, 0);
            t.insert(50, s[1], 0, 0);
            Terms.express(t, E, "a");
            DUE.due("22: " + s[0] + " and " + s[1], t.sum(0, E), s[2]);
        }
        StatementTables t = new StatementTables();
        for (int k = 0; k < 40; k++) {
            t.insert(k, MAX, 0, 0);
        }
        Terms.express(t, E, "a");
        DUE.due("22: 40 times the greatest int", t.sum(0, E), -40);
    }

    /** "The greatest value of e over the rows that meet w": any int, at any row. */
    private static void greatestOfAll() {
        for (int x : new int[] {MIN, MIN + 1, -1, 0, MAX, FAULT, NONE}) {
            DUE.due("23: one row, " + x, ofOneRow(x, "1", "a", t -> t.greatest(W, E)), x);
        }
        for (int k : Sample.KEYS) {
            BOUNDS.leaves("23: at " + k, sample("1", Sample.at(k, "-98", "-99")),
                    t -> t.greatest(W, E), -98);
            BOUNDS.leaves("23: not of " + k, sample("key " + k + " = not",
                    Sample.at(k, "99", "-99")), t -> t.greatest(W, E), -99);
        }
        StatementTables t = new StatementTables();
        t.insert(1, MIN, 0, 0);
        t.insert(2, MAX, 0, 0);
        t.insert(3, MIN, 0, 0);
        Terms.express(t, E, "a");
        DUE.due("23: compared as ints", t.greatest(0, E), MAX);
    }

    /** "greatest ...: FAULT is tested before NONE." */
    private static void greatestFaultBeforeNone() {
        for (int k : Sample.KEYS) {
            BOUNDS.refused("26: w is a fault and no row meets it",
                    sample(Sample.at(k, Terms.FAULT, "0"), "1"), t -> t.greatest(W, E), FAULT);
        }
        BOUNDS.refused("26: no row meets w, e is a fault", sample("0", Terms.FAULT),
                t -> t.greatest(W, E), NONE);
        BOUNDS.refused("26: no row, w is a fault", t -> Terms.express(t, W, Terms.FAULT),
                t -> t.greatest(W, W), NONE);
    }

    /** "The number of different values": none to 40, wherever the same ones stand. */
    private static void differentNumber() {
        for (int values : new int[] {1, 2, 13, 20, 39, 40}) {
            StatementTables t = new StatementTables();
            for (int k = 0; k < 40; k++) {
                t.insert(k, k % values, 0, 0);
            }
            Terms.express(t, E, "a");
            DUE.due("24: " + values + " values", t.different(0, E), values);
        }
        StatementTables t = new StatementTables();
        t.insert(-50, MIN, 0, 0);
        t.insert(0, MAX, 0, 0);
        t.insert(50, MIN, 0, 0);
        t.insert(7, 0, 0, 0);
        Terms.express(t, E, "a");
        DUE.due("24: the first and the last are the same", t.different(0, E), 3);
        DUE.due("24: over the rows that meet w alone", t.different(E, E), 2);
    }

    /** "one that is not 0 to 7 answers BAD_ARG before anything else". */
    private static void keyExpression() {
        for (int w : BAD) {
            for (int n : new int[] {0, -1, 6, MAX}) {
                BOUNDS.refused("25: w " + w, Sample.plain(), t -> t.key(w, n, 0), BAD_ARG);
                DUE.due("25: w " + w + ", no row", new StatementTables().key(w, n, 1), BAD_ARG);
            }
        }
        BOUNDS.leaves("25: w 7", sample("0", "1"), t -> t.key(7, 0, 0), -50);
    }

    /** "FAULT if w is one for some row": also one behind the n-th. */
    private static void keyFault() {
        for (int k : Sample.KEYS) {
            for (int down : new int[] {0, 1}) {
                for (int n = 0; n <= 5; n += 5) {
                    int place = n;
                    BOUNDS.refused("25: a fault at " + k,
                            sample(Sample.at(k, Terms.FAULT, "1"), "1"),
                            t -> t.key(W, place, down), FAULT);
                }
            }
        }
    }

    /** "NONE if there is none"; "n below 0 answers NONE". */
    private static void keyNone() {
        for (int down : new int[] {0, 1, -1, MIN, MAX}) {
            for (int n : new int[] {-1, -2, MIN, 6, 7, 40, 101, MAX}) {
                BOUNDS.refused("25: n " + n, Sample.plain(), t -> t.key(Sample.ALL, n, down),
                        NONE);
            }
            BOUNDS.refused("25: the third of two", Sample.plain(),
                    t -> t.key(Sample.BELOW_0, 2, down), NONE);
            BOUNDS.refused("25: no row meets w", Sample.plain(),
                    t -> t.key(Sample.NO_ROW, 0, down), NONE);
            BOUNDS.refused("25: no row", t -> { }, t -> t.key(0, 0, down), NONE);
            BOUNDS.refused("25: no row, n below 0", t -> { }, t -> t.key(0, -1, down), NONE);
            BOUNDS.refused("25: 40 rows", Sample.full(t -> { }),
                    t -> t.key(Sample.ALL, 40, down), NONE);
        }
    }

    /** "key: FAULT is tested before NONE." */
    private static void keyOrder() {
        for (int down : new int[] {0, 1}) {
            for (int n : new int[] {-1, MIN, 6, MAX}) {
                BOUNDS.refused("26: FAULT before NONE", Sample.plain(),
                        t -> t.key(Sample.FAULT_AT_0, n, down), FAULT);
            }
            BOUNDS.refused("26: FAULT, though no row meets w",
                    sample(Sample.at(50, Terms.FAULT, "0"), "1"), t -> t.key(W, 0, down), FAULT);
        }
        BOUNDS.refused("26: no row, so no fault", t -> Terms.express(t, W, Terms.FAULT),
                t -> t.key(W, 0, 0), NONE);
    }

    /** "the n-th row (0 is the first) ... by rising key (down 0) or falling key (else)". */
    private static void keyRisingOrFalling() {
        int[] odd = {-7, 3};
        for (int down : new int[] {1, -1, 2, MIN, MAX, 256, 65536}) {
            for (int n = 0; n < 6; n++) {
                int place = n;
                BOUNDS.leaves("25: falling " + n, Sample.plain(),
                        t -> t.key(Sample.ALL, place, down), Sample.KEYS[5 - n]);
            }
            for (int n = 0; n < 2; n++) {
                int place = n;
                BOUNDS.leaves("25: falling, some " + n, sample("key key 2 / 2 * -", "1"),
                        t -> t.key(W, place, down), odd[1 - n]);
            }
        }
        for (int n = 0; n < 6; n++) {
            int place = n;
            BOUNDS.leaves("25: rising " + n, Sample.plain(), t -> t.key(Sample.ALL, place, 0),
                    Sample.KEYS[n]);
        }
        for (int n = 0; n < 2; n++) {
            int place = n;
            BOUNDS.leaves("25: rising, some " + n, sample("key key 2 / 2 * -", "1"),
                    t -> t.key(W, place, 0), odd[n]);
        }
        BOUNDS.leaves("25: the 40th", Sample.full(t -> { }), t -> t.key(Sample.ALL, 39, 0), 50);
        BOUNDS.leaves("25: the 40th", Sample.full(t -> { }), t -> t.key(Sample.ALL, 39, 1), -50);
    }
}
