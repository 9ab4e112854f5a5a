import java.lang.reflect.Method;
import java.util.ArrayList;
import java.util.Arrays;
import java.util.List;
import java.util.Map;
import java.util.TreeMap;

/** The program and the model, asked the same calls, until an answer differs. */
final class Pair {
    private static final int SHOWN = 12;
    private static final Map<String, Method> PROGRAM = methods(StatementTables.class);
    private static final Map<String, Method> MODEL = methods(Model.class);
    private static final String[] CODES = {"BAD_ARG", "FULL", "TOO_FEW", "NONE", "FAULT",
        "BAD_KEY", "NOT_UNIQUE", "UNCHECKED"};

    private final StatementTables program = new StatementTables();
    private final Model model = new Model();
    private final List<String> made = new ArrayList<>();
    private final Map<String, Integer> seen;
    private boolean wrong;

    /** Counts in seen how often each call has met each code. */
    Pair(Map<String, Integer> seen) {
        this.seen = seen;
    }

    private static Map<String, Method> methods(Class<?> asked) {
        Map<String, Method> methods = new TreeMap<>();
        for (Method method : asked.getDeclaredMethods()) {
            methods.put(method.getName(), method);
        }
        return methods;
    }

    int calls() {
        return made.size();
    }

    boolean isWrong() {
        return wrong;
    }

    void make(String name, int... x) {
        if (wrong) {
            return;
        }
        String text = name + Arrays.toString(x);
        int got = ask(PROGRAM.get(name), program, x);
        int want = ask(MODEL.get(name), model, x);
        made.add(text + " answered " + got);
        note(name, want);
        if (got != want) {
            wrong = true;
            System.out.println(text + " answered " + got + ", due is " + want + ", after");
            made.subList(Math.max(0, made.size() - SHOWN), made.size()).forEach(
                    line -> System.out.println("  " + line));
        }
    }

    /** Every cell but the keys. */
    void lookAtCells() {
        for (int k = -50; k <= 50; k++) {
            for (int col = 1; col <= 3; col++) {
                make("value", k, col);
            }
        }
    }

    private void note(String name, int answer) {
        int code = -1000000001 - answer;
        seen.merge(name + " " + (code >= 0 && code < CODES.length ? CODES[code] : "good"), 1,
                Integer::sum);
    }

    private static int ask(Method method, Object asked, int[] x) {
        try {
            Object answer = method.invoke(asked, Arrays.stream(x).boxed().toArray());
            return answer == null ? 0 : (Integer) answer;
        } catch (ReflectiveOperationException e) {
            throw new IllegalStateException(method.getName() + Arrays.toString(x), e);
        }
    }
}
