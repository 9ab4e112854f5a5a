import java.util.ArrayDeque;
import java.util.ArrayList;
import java.util.Arrays;
import java.util.Deque;
import java.util.HashSet;
import java.util.List;
import java.util.Set;
import java.util.TreeMap;

/**
 * The document once more, written as unlike the program as can be: terms are trees that work out
 * only what the document says, a fault is an exception, tables are maps.
 */
final class Model {
    private static final class Fault extends Exception {
        private static final long serialVersionUID = 1L;
    }

    private static final class Refused extends Exception {
        private static final long serialVersionUID = 1L;
        final int code;

        Refused(int code) {
            this.code = code;
        }
    }

    private interface Statement {
        int run() throws Refused, Fault;
    }

    private static final class Term {
        final String kind;
        final int number;
        final Term[] under;

        Term(String kind, int number, Term... under) {
            this.kind = kind;
            this.number = number;
            this.under = under;
        }

        int parts() {
            int parts = 1;
            for (Term t : under) {
                parts += t.parts();
            }
            return parts;
        }
    }

    private static final String[] LEAVES = {"constant", "column", "parameter"};
    private static final int[] LEAST = {-99, 0, 0};
    private static final int[] MOST = {99, 3, 2};
    private static final String[] ONES = {"negative", "not"};
    private static final String[] TWOS = {"+", "-", "*", "/", "<", "=", "min", "max", "and", "or"};

    private final Deque<Term> stack = new ArrayDeque<>();
    private final Term[] expressions = new Term[8];
    private final int[] parameters = new int[3];
    private TreeMap<Integer, int[]> table = new TreeMap<>();
    private final List<TreeMap<Integer, int[]>> places = new ArrayList<>();
    private boolean unique;
    private Term check;

    Model() {
        Arrays.fill(expressions, new Term("constant", 1));
        for (int s = 0; s < 4; s++) {
            places.add(null);
        }
    }

    private int work(Term t, int[] row) throws Fault {
        switch (t.kind) {
            case "constant":
                return t.number;
            case "column":
                return row[t.number];
            case "parameter":
                return parameters[t.number];
            default:
                break;
        }
        int x = work(t.under[0], row);
        switch (t.kind) {
            case "negative":
                return 0 - x;
            case "not":
                return x == 0 ? 1 : 0;
            case "and":
                return x == 0 ? 0 : work(t.under[1], row) != 0 ? 1 : 0;
            case "or":
                return x != 0 ? 1 : work(t.under[1], row) != 0 ? 1 : 0;
            case "choose":
                return work(t.under[x != 0 ? 1 : 2], row);
            default:
                return workTwo(t.kind, x, work(t.under[1], row));
        }
    }

    private static int workTwo(String kind, int x, int y) throws Fault {
        switch (kind) {
            case "+":
                return x + y;
            case "-":
                return x - y;
            case "*":
                return x * y;
            case "/":
                if (y == 0) {
                    throw new Fault();
                }
                return x / y;
            case "<":
                return x < y ? 1 : 0;
            case "=":
                return x == y ? 1 : 0;
            case "min":
                return Math.min(x, y);
            case "max":
                return Math.max(x, y);
            default:
                throw new IllegalStateException(kind);
        }
    }

    private int answer(Statement s) {
        try {
            return s.run();
        } catch (Refused r) {
            return r.code;
        } catch (Fault f) {
            return StatementTables.FAULT;
        }
    }

    private static void refuseIf(boolean wrong, int code) throws Refused {
        if (wrong) {
            throw new Refused(code);
        }
    }

    private Term expression(int e) throws Refused {
        refuseIf(e < 0 || e > 7, StatementTables.BAD_ARG);
        return expressions[e];
    }

    private void refuseFullStack() throws Refused {
        refuseIf(stack.stream().mapToInt(Term::parts).sum() == 24, StatementTables.FULL);
    }

    private int build(String kind, int taken) throws Refused {
        refuseFullStack();
        refuseIf(stack.size() < taken, StatementTables.TOO_FEW);
        Term[] under = new Term[taken];
        for (int i = taken - 1; i >= 0; i--) {
            under[i] = stack.pop();
        }
        stack.push(new Term(kind, 0, under));
        return stack.size();
    }

    int leaf(int kind, int k) {
        return answer(() -> {
            refuseIf(kind < 0 || kind > 2, StatementTables.BAD_ARG);
            refuseIf(k < LEAST[kind] || k > MOST[kind], StatementTables.BAD_ARG);
            refuseIf(stack.size() == 8, StatementTables.FULL);
            refuseFullStack();
            stack.push(new Term(LEAVES[kind], k));
            return stack.size();
        });
    }

    int one(int op) {
        return answer(() -> {
            refuseIf(op < 0 || op >= ONES.length, StatementTables.BAD_ARG);
            return build(ONES[op], 1);
        });
    }

    int two(int op) {
        return answer(() -> {
            refuseIf(op < 0 || op >= TWOS.length, StatementTables.BAD_ARG);
            return build(TWOS[op], 2);
        });
    }

    int choose() {
        return answer(() -> build("choose", 3));
    }

    void scrap() {
        stack.clear();
    }

    int express(int e) {
        return answer(() -> {
            expression(e);
            refuseIf(stack.size() != 1, StatementTables.TOO_FEW);
            expressions[e] = stack.pop();
            return expressions[e].parts();
        });
    }

    int parameter(int p, int x) {
        return answer(() -> {
            refuseIf(p < 0 || p > 2, StatementTables.BAD_ARG);
            parameters[p] = x;
            return 0;
        });
    }

    /** The rows that meet w; every row of the table is worked out. */
    private List<int[]> meeting(Term w) throws Fault {
        List<int[]> met = new ArrayList<>();
        for (int[] row : table.values()) {
            if (work(w, row) != 0) {
                met.add(row);
            }
        }
        return met;
    }

    private int[] values(List<int[]> rows, Term e) throws Fault {
        int[] values = new int[rows.size()];
        for (int i = 0; i < values.length; i++) {
            values[i] = work(e, rows.get(i));
        }
        return values;
    }

    private static boolean isUnique(List<int[]> rows) {
        Set<Integer> seen = new HashSet<>();
        return rows.stream().allMatch(row -> seen.add(row[3]));
    }

    private boolean isChecked(List<int[]> rows, Term term) {
        for (int[] row : rows) {
            try {
                if (work(term, row) == 0) {
                    return false;
                }
            } catch (Fault f) {
                return false;
            }
        }
        return true;
    }

    /** Makes rows the table's, if keys and conditions allow. */
    private void become(List<int[]> rows) throws Refused {
        TreeMap<Integer, int[]> next = new TreeMap<>();
        for (int[] row : rows) {
            refuseIf(row[0] < -50 || row[0] > 50, StatementTables.BAD_KEY);
            refuseIf(next.put(row[0], row) != null, StatementTables.BAD_KEY);
        }
        refuseIf(unique && !isUnique(rows), StatementTables.NOT_UNIQUE);
        refuseIf(check != null && !isChecked(rows, check), StatementTables.UNCHECKED);
        table = next;
    }

    private List<int[]> tableRows() {
        return new ArrayList<>(table.values());
    }

    int insert(int k, int a, int b, int c) {
        return answer(() -> {
            refuseIf(k < -50 || k > 50 || table.containsKey(k), StatementTables.BAD_KEY);
            refuseIf(table.size() == 40, StatementTables.FULL);
            List<int[]> rows = tableRows();
            rows.add(new int[] {k, a, b, c});
            become(rows);
            return rows.size();
        });
    }

    int delete(int w) {
        return answer(() -> {
            List<int[]> met = meeting(expression(w));
            for (int[] row : met) {
                table.remove(row[0]);
            }
            return met.size();
        });
    }

    int update(int w, int col, int e) {
        return answer(() -> {
            Term where = expression(w);
            Term to = expression(e);
            refuseIf(col < 0 || col > 3, StatementTables.BAD_ARG);
            List<int[]> met = meeting(where);
            int[] values = values(met, to);
            List<int[]> rows = tableRows();
            for (int i = 0; i < values.length; i++) {
                int[] changed = met.get(i).clone();
                changed[col] = values[i];
                rows.set(rows.indexOf(met.get(i)), changed);
            }
            become(rows);
            return met.size();
        });
    }

    int copy(int w, int e) {
        return answer(() -> {
            Term where = expression(w);
            Term to = expression(e);
            List<int[]> met = meeting(where);
            int[] values = values(met, to);
            refuseIf(table.size() + met.size() > 40, StatementTables.FULL);
            List<int[]> rows = tableRows();
            for (int i = 0; i < values.length; i++) {
                int[] further = met.get(i).clone();
                further[0] = values[i];
                rows.add(further);
            }
            become(rows);
            return met.size();
        });
    }

    int unique(int on) {
        return answer(() -> {
            refuseIf(on != 0 && !isUnique(tableRows()), StatementTables.NOT_UNIQUE);
            unique = on != 0;
            return 0;
        });
    }

    int check(int e) {
        return answer(() -> {
            Term term = expression(e);
            refuseIf(!isChecked(tableRows(), term), StatementTables.UNCHECKED);
            check = term;
            return table.size();
        });
    }

    int uncheck() {
        int was = check == null ? 0 : 1;
        check = null;
        return was;
    }

    int save(int s) {
        return answer(() -> {
            refuseIf(s < 0 || s > 3, StatementTables.BAD_ARG);
            places.set(s, new TreeMap<>(table));
            return table.size();
        });
    }

    private TreeMap<Integer, int[]> place(int s) throws Refused {
        refuseIf(s < 0 || s > 3, StatementTables.BAD_ARG);
        refuseIf(places.get(s) == null, StatementTables.NONE);
        return places.get(s);
    }

    int load(int s) {
        return answer(() -> {
            become(new ArrayList<>(place(s).values()));
            return table.size();
        });
    }

    int differences(int s) {
        return answer(() -> {
            TreeMap<Integer, int[]> place = place(s);
            Set<Integer> keys = new HashSet<>(table.keySet());
            keys.addAll(place.keySet());
            keys.removeIf(k -> Arrays.equals(table.get(k), place.get(k)));
            return keys.size();
        });
    }

    int rows() {
        return table.size();
    }

    int value(int k, int col) {
        return answer(() -> {
            refuseIf(col < 0 || col > 3, StatementTables.BAD_ARG);
            refuseIf(!table.containsKey(k), StatementTables.NONE);
            return table.get(k)[col];
        });
    }

    int count(int w) {
        return answer(() -> meeting(expression(w)).size());
    }

    private int[] asked(int w, int e) throws Refused, Fault {
        Term where = expression(w);
        Term what = expression(e);
        return values(meeting(where), what);
    }

    int sum(int w, int e) {
        return answer(() -> Arrays.stream(asked(w, e)).sum());
    }

    int greatest(int w, int e) {
        return answer(() -> {
            int[] values = asked(w, e);
            refuseIf(values.length == 0, StatementTables.NONE);
            return Arrays.stream(values).max().getAsInt();
        });
    }

    int different(int w, int e) {
        return answer(() -> (int) Arrays.stream(asked(w, e)).distinct().count());
    }

    int key(int w, int n, int down) {
        return answer(() -> {
            List<int[]> met = meeting(expression(w));
            refuseIf(n < 0 || n >= met.size(), StatementTables.NONE);
            return met.get(down == 0 ? n : met.size() - 1 - n)[0];
        });
    }
}
