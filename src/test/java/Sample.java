import java.util.function.Consumer;

/**
 * An object with something in every part of its state, so that a change to any part shows.
 * Its rows have the keys -50, -7, 0, 3, 20 and 50.
 */
final class Sample {
    static final int[] KEYS = {-50, -7, 0, 3, 20, 50};
    /** Expressions of the sample, by what they are; expression 0 is still the constant 1. */
    static final int ALL = 0;
    static final int BELOW_0 = 1;
    static final int NEXT_KEY = 2;
    static final int NO_ROW = 3;
    static final int FAULT_AT_0 = 4;
    static final int A = 5;
    /** For tests to change. */
    static final int W = 6;
    static final int E = 7;

    private Sample() {
    }

    /** The sample, changed by what is handed in, with two terms on its stack. */
    static Consumer<StatementTables> with(Consumer<StatementTables> more) {
        return t -> {
            fill(t);
            more.accept(t);
            t.scrap();
            Terms.push(t, "a 3 * b");
        };
    }

    static Consumer<StatementTables> plain() {
        return with(t -> { });
    }

    /** Like with, but with 40 rows: also -40 to -11 and 4 to 7. */
    static Consumer<StatementTables> full(Consumer<StatementTables> more) {
        return with(t -> {
            insertFrom(t, -40, -11);
            insertFrom(t, 4, 7);
            more.accept(t);
        });
    }

    private static void insertFrom(StatementTables t, int first, int last) {
        for (int k = first; k <= last; k++) {
            t.insert(k, k, 0, k - 100);
        }
    }

    /** Place 0 has two rows, 1 none, 2 five, 3 was never saved; c below p2 is checked. */
    static void fill(StatementTables t) {
        t.save(1);
        t.insert(-50, 4, -1, 11);
        t.insert(-7, 0, 5, 12);
        t.save(0);
        t.insert(0, -3, 2, 13);
        t.insert(3, 8, 8, 14);
        t.insert(50, 4, 9, 16);
        t.save(2);
        t.insert(20, 1, 1, 17);
        t.parameter(0, 5);
        t.parameter(1, -6);
        t.parameter(2, 70);
        t.unique(1);
        Terms.express(t, E, "c p2 <");
        t.check(E);
        Terms.express(t, BELOW_0, "key 0 <");
        Terms.express(t, NEXT_KEY, "key 1 +");
        Terms.express(t, NO_ROW, "0");
        Terms.express(t, FAULT_AT_0, "9 key /");
        Terms.express(t, A, "a");
        Terms.express(t, W, "b p0 +");
        Terms.express(t, E, "c p1 *");
    }

    /** A term that is one value for the row with key k and another for the other rows. */
    static String at(int k, String there, String elsewhere) {
        return "key " + k + " = " + there + " " + elsewhere + " choose";
    }
}
