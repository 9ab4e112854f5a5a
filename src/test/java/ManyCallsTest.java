import java.util.function.IntConsumer;

/**
 * "An object is used for at most 512 calls": whatever the calls before, the last of 512 answers as
 * the first would. Each run repeats what might use something up.
 */
public final class ManyCallsTest {
    private static final Due DUE = new Due();
    private static final int CALLS = 512;

    private StatementTables t = new StatementTables();
    private int calls;

    public static void main(String[] args) {
        ManyCallsTest test = new ManyCallsTest();
        test.terms();
        test.longTerms();
        test.pushesRefused();
        test.insertsAndDeletes();
        test.insertsRefused();
        test.copies();
        test.movedKeys();
        test.refusedUpdates();
        test.savesAndLoads();
        test.conditions();
        test.questions();
        DUE.end();
    }

    private void answer(String what, int got, int want) {
        calls++;
        DUE.due(what + ", call " + calls, got, want);
    }

    /** Rounds of so many calls each; with the calls at the end the run has 512 of them. */
    private void rounds(int callsOfRound, int callsAtEnd, IntConsumer round) {
        while ((CALLS - calls - callsAtEnd) % callsOfRound != 0) {
            t.rows();
            calls++;
        }
        for (int i = 0; calls + callsAtEnd < CALLS; i++) {
            round.accept(i);
        }
    }

    private void begin() {
        t = new StatementTables();
        calls = 0;
    }

    private void end() {
        DUE.due("calls of a run", calls, CALLS);
    }

    private void terms() {
        begin();
        answer("insert", t.insert(1, 0, 0, 0), 1);
        rounds(5, 0, i -> {
            answer("leaf", t.leaf(0, i % 99), 1);
            answer("leaf", t.leaf(0, 1), 2);
            answer("two", t.two(0), 1);
            answer("express", t.express(i % 8), 3);
            answer("sum", t.sum(i % 8, i % 8), i % 99 + 1);
        });
        end();
    }

    private void longTerms() {
        begin();
        answer("insert", t.insert(1, 0, 0, 0), 1);
        rounds(27, 0, i -> {
            answer("leaf", t.leaf(0, 50 + i), 1);
            for (int parts = 2; parts <= 24; parts++) {
                answer("one", t.one(0), 1);
            }
            answer("express", t.express(i % 7), 24);
            answer("check", t.check(i % 7), 1);
            answer("sum", t.sum(7, i % 7), -50 - i);
        });
        end();
    }

    private void pushesRefused() {
        begin();
        answer("leaf", t.leaf(0, 5), 1);
        rounds(4, 2, i -> {
            answer("leaf", t.leaf(3, 0), StatementTables.BAD_ARG);
            answer("two", t.two(0), StatementTables.TOO_FEW);
            answer("choose", t.choose(), StatementTables.TOO_FEW);
            answer("one", t.one(2), StatementTables.BAD_ARG);
        });
        answer("one", t.one(0), 1);
        answer("express", t.express(0), 2);
        end();
    }

    private void insertsAndDeletes() {
        begin();
        rounds(2, 0, i -> {
            answer("insert", t.insert(i % 101 - 50, i, i, i), 1);
            answer("delete", t.delete(0), 1);
        });
        end();
    }

    private void insertsRefused() {
        begin();
        for (int k = 0; k < 40; k++) {
            answer("insert", t.insert(k, k, k, k), k + 1);
        }
        rounds(3, 2, i -> {
            answer("insert", t.insert(50, 0, 0, 0), StatementTables.FULL);
            answer("insert", t.insert(i % 40, 0, 0, 0), StatementTables.BAD_KEY);
            answer("copy", t.copy(0, 0), StatementTables.FULL);
        });
        answer("delete", t.delete(0), 40);
        answer("insert", t.insert(50, 0, 0, 0), 1);
        end();
    }

    private void copies() {
        begin();
        answer("leaf", t.leaf(1, 0), 1);
        answer("one", t.one(0), 1);
        answer("express", t.express(1), 2);
        rounds(3, 0, i -> {
            answer("insert", t.insert(i % 50 + 1, i, 0, 0), 1);
            answer("copy", t.copy(0, 1), 1);
            answer("delete", t.delete(0), 2);
        });
        end();
    }

    private void movedKeys() {
        begin();
        answer("leaf", t.leaf(1, 0), 1);
        answer("one", t.one(0), 1);
        answer("express", t.express(1), 2);
        answer("insert", t.insert(50, 7, 8, 9), 1);
        answer("insert", t.insert(-50, 4, 5, 6), 2);
        rounds(2, 0, i -> {
            answer("update", t.update(0, 0, 1), 2);
            answer("value", t.value(50, 3), i % 2 == 0 ? 6 : 9);
        });
        end();
    }

    private void refusedUpdates() {
        begin();
        answer("insert", t.insert(1, 7, 8, 9), 1);
        answer("insert", t.insert(2, 4, 5, 6), 2);
        answer("unique", t.unique(1), 0);
        rounds(2, 3, i -> {
            answer("update", t.update(0, 0, 0), StatementTables.BAD_KEY);
            answer("update", t.update(0, 3, 0), StatementTables.NOT_UNIQUE);
        });
        answer("value", t.value(1, 3), 9);
        answer("value", t.value(2, 3), 6);
        answer("update", t.update(0, 1, 0), 2);
        end();
    }

    private void savesAndLoads() {
        begin();
        rounds(4, 0, i -> {
            answer("insert", t.insert(i % 30, i, i, i), 1);
            answer("save", t.save(i % 4), 1);
            answer("delete", t.delete(0), 1);
            answer("differences", t.differences(i % 4), 1);
        });
        end();
        begin();
        answer("save", t.save(3), 0);
        rounds(3, 0, i -> {
            answer("insert", t.insert(i % 101 - 50, i, i, i), 1);
            answer("differences", t.differences(3), 1);
            answer("load", t.load(3), 0);
        });
        end();
    }

    private void conditions() {
        begin();
        answer("insert", t.insert(1, 0, 0, 5), 1);
        rounds(6, 0, i -> {
            answer("unique", t.unique(1), 0);
            answer("insert", t.insert(2, 0, 0, 5), StatementTables.NOT_UNIQUE);
            answer("unique", t.unique(0), 0);
            answer("check", t.check(i % 8), 1);
            answer("uncheck", t.uncheck(), 1);
            answer("uncheck", t.uncheck(), 0);
        });
        end();
    }

    private void questions() {
        begin();
        answer("insert", t.insert(-5, 0, 0, 5), 1);
        answer("insert", t.insert(5, 0, 0, 5), 2);
        rounds(7, 0, i -> {
            answer("count", t.count(0), 2);
            answer("sum", t.sum(0, 0), 2);
            answer("greatest", t.greatest(0, 0), 1);
            answer("different", t.different(0, 0), 1);
            answer("key", t.key(0, 0, i % 2), i % 2 == 0 ? -5 : 5);
            answer("value", t.value(5, 3), 5);
            answer("rows", t.rows(), 2);
        });
        end();
    }
}
