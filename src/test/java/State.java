import java.util.ArrayList;
import java.util.LinkedHashMap;
import java.util.List;
import java.util.Map;
import java.util.function.Function;

/** All that calls can show of an object, part by part. A look at one part uses the object up. */
final class State {
    static final Map<String, Function<StatementTables, List<Integer>>> PARTS = parts();
    /** What comes of several parts: if none of them has changed, neither has this. */
    static final Map<String, Function<StatementTables, List<Integer>>> FOLLOWING = following();

    private static final int[][] SAMPLES = {
        {-50, Integer.MIN_VALUE, 3, 0}, {0, 0, 0, 0}, {3, 8, -8, 14}, {7, 4, 9, 100},
        {50, Integer.MAX_VALUE, -1, 69}};

    private State() {
    }

    private static Map<String, Function<StatementTables, List<Integer>>> parts() {
        Map<String, Function<StatementTables, List<Integer>>> parts = new LinkedHashMap<>();
        parts.put("rows", State::rows);
        parts.put("terms on the stack", State::termsOnStack);
        parts.put("parts on the stack", State::partsOnStack);
        parts.put("values of the stack", State::valuesOfStack);
        parts.put("expressions 0 to 6", t -> expressions(t, 0, 6, 7));
        parts.put("expression 7", t -> expressions(t, 7, 7, 0));
        parts.put("parameters", State::parameters);
        parts.put("unique", State::unique);
        parts.put("check", State::check);
        for (int s = 0; s < 4; s++) {
            int place = s;
            parts.put("place " + s, t -> place(t, place));
        }
        return parts;
    }

    private static Map<String, Function<StatementTables, List<Integer>>> following() {
        Map<String, Function<StatementTables, List<Integer>>> following = new LinkedHashMap<>();
        following.put("sums and counts", State::sumsAndCounts);
        following.put("greatest, different and keys", State::otherQuestions);
        following.put("rows after a copy", State::rowsAfterCopy);
        following.put("rows after an update", State::rowsAfterUpdate);
        return following;
    }

    private static List<Integer> sumsAndCounts(StatementTables t) {
        List<Integer> seen = new ArrayList<>();
        for (int w = 0; w < 8; w++) {
            seen.add(t.count(w));
            for (int e = 0; e < 8; e++) {
                seen.add(t.sum(w, e));
            }
        }
        for (int s = 0; s < 4; s++) {
            seen.add(t.differences(s));
        }
        return seen;
    }

    private static List<Integer> otherQuestions(StatementTables t) {
        List<Integer> seen = new ArrayList<>();
        for (int e = 0; e < 8; e++) {
            seen.add(t.greatest(0, e));
            seen.add(t.different(0, e));
            for (int n = 0; n < 6; n++) {
                seen.add(t.key(e, n, 0));
                seen.add(t.key(e, n, 1));
            }
        }
        return seen;
    }

    private static List<Integer> rowsAfterCopy(StatementTables t) {
        List<Integer> seen = new ArrayList<>();
        t.uncheck();
        t.unique(0);
        Terms.express(t, 0, "key 3 =");
        Terms.express(t, 1, "44");
        seen.add(t.copy(0, 1));
        seen.addAll(rows(t));
        return seen;
    }

    private static List<Integer> rowsAfterUpdate(StatementTables t) {
        List<Integer> seen = new ArrayList<>();
        t.uncheck();
        t.unique(0);
        Terms.express(t, 0, "key neg");
        seen.add(t.update(1, 0, 0));
        seen.addAll(rows(t));
        return seen;
    }

    private static List<Integer> rows(StatementTables t) {
        List<Integer> seen = new ArrayList<>();
        seen.add(t.rows());
        for (int k = -50; k <= 50; k++) {
            for (int col = 1; col <= 3; col++) {
                seen.add(t.value(k, col));
            }
        }
        return seen;
    }

    private static List<Integer> termsOnStack(StatementTables t) {
        List<Integer> seen = new ArrayList<>();
        for (int i = 0; i < 9; i++) {
            seen.add(t.leaf(0, 1));
        }
        return seen;
    }

    private static List<Integer> partsOnStack(StatementTables t) {
        List<Integer> seen = new ArrayList<>();
        for (int i = 0; i < 25; i++) {
            seen.add(t.one(0));
        }
        return seen;
    }

    /** Makes one term of all, which shows what they are and in which order. */
    private static List<Integer> valuesOfStack(StatementTables t) {
        List<Integer> seen = new ArrayList<>();
        for (int i = 0; i < 8; i++) {
            seen.add(t.two(1));
        }
        seen.add(t.express(0));
        seen.addAll(expressions(t, 0, 0, 1));
        return seen;
    }

    /** The values of the expressions from first to last, with w as the one that all rows meet. */
    private static List<Integer> expressions(StatementTables t, int first, int last, int w) {
        List<Integer> seen = new ArrayList<>();
        t.uncheck();
        t.unique(0);
        deleteAll(t, w);
        for (int[] row : SAMPLES) {
            t.insert(row[0], row[1], row[2], row[3]);
            for (int e = first; e <= last; e++) {
                seen.add(t.sum(w, e));
            }
            t.delete(w);
        }
        return seen;
    }

    private static void deleteAll(StatementTables t, int w) {
        Terms.express(t, w, "1");
        t.delete(w);
    }

    private static List<Integer> parameters(StatementTables t) {
        List<Integer> seen = new ArrayList<>();
        for (int p = 0; p < 3; p++) {
            Terms.express(t, p, "p" + p);
        }
        seen.addAll(expressions(t, 0, 2, 7));
        return seen;
    }

    private static List<Integer> unique(StatementTables t) {
        List<Integer> seen = new ArrayList<>();
        t.uncheck();
        deleteAll(t, 0);
        seen.add(t.insert(1, 0, 0, 5));
        seen.add(t.insert(2, 0, 0, 5));
        return seen;
    }

    /** Delete tests no check, so the check stays on between the samples. */
    private static List<Integer> check(StatementTables t) {
        List<Integer> seen = new ArrayList<>();
        deleteAll(t, 0);
        seen.addAll(samplesTaken(t));
        for (int p = 0; p < 3; p++) {
            t.parameter(p, 1000);
        }
        seen.addAll(samplesTaken(t));
        seen.add(t.uncheck());
        return seen;
    }

    private static List<Integer> samplesTaken(StatementTables t) {
        List<Integer> seen = new ArrayList<>();
        for (int[] row : SAMPLES) {
            seen.add(t.insert(row[0], row[1], row[2], row[3]));
            t.delete(0);
        }
        return seen;
    }

    private static List<Integer> place(StatementTables t, int s) {
        List<Integer> seen = new ArrayList<>();
        t.uncheck();
        t.unique(0);
        deleteAll(t, 0);
        seen.add(t.load(s));
        seen.addAll(rows(t));
        return seen;
    }
}
