import java.util.List;
import java.util.function.Consumer;
import java.util.function.Function;
import java.util.function.ToIntFunction;

/** Asks a call on an object for its answer and for what it has changed. */
final class Bounds {
    private static final String SAME = ", the same as before (1) or not (0),";

    private final Due due;

    Bounds(Due due) {
        this.due = due;
    }

    /** The call answers the code, and changes nothing. */
    void refused(String what, Consumer<StatementTables> before,
            ToIntFunction<StatementTables> call, int code) {
        changes(what, before, call, code);
    }

    /** A question, or a call that finds nothing to do, answers want, and changes nothing. */
    void leaves(String what, Consumer<StatementTables> before,
            ToIntFunction<StatementTables> call, int want) {
        changes(what, before, call, want);
    }

    /** The call answers want, and changes the parts of State named and no other. */
    void changes(String what, Consumer<StatementTables> before,
            ToIntFunction<StatementTables> call, int want, String... parts) {
        due.due(what, call.applyAsInt(made(before)), want);
        for (String part : State.PARTS.keySet()) {
            boolean same = isSame(before, call, State.PARTS.get(part));
            boolean dueToDiffer = List.of(parts).contains(part);
            due.due(what + ": " + part + SAME, same ? 1 : 0, dueToDiffer ? 0 : 1);
        }
        if (parts.length == 0) {
            for (String part : State.FOLLOWING.keySet()) {
                boolean same = isSame(before, call, State.FOLLOWING.get(part));
                due.due(what + ": " + part + SAME, same ? 1 : 0, 1);
            }
        }
    }

    /** Whether a look at an object after the call shows what it shows without the call. */
    private static boolean isSame(Consumer<StatementTables> before,
            ToIntFunction<StatementTables> call, Function<StatementTables, List<Integer>> look) {
        StatementTables asked = made(before);
        call.applyAsInt(asked);
        return look.apply(asked).equals(look.apply(made(before)));
    }

    private static StatementTables made(Consumer<StatementTables> before) {
        StatementTables t = new StatementTables();
        before.accept(t);
        return t;
    }
}
