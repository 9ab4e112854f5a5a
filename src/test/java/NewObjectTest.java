import java.lang.reflect.Constructor;
import java.lang.reflect.Field;
import java.lang.reflect.Method;
import java.lang.reflect.Modifier;
import java.util.Set;
import java.util.TreeSet;

/** Promise 1, the constants, and the public face. */
public final class NewObjectTest {
    private static final Due DUE = new Due();

    public static void main(String[] args) throws Exception {
        nothingIsThere();
        objectsShareNothing();
        constants();
        face();
        DUE.end();
    }

    private static void nothingIsThere() {
        StatementTables t = new StatementTables();
        DUE.due("1: rows", t.rows(), 0);
        for (int k = -50; k <= 50; k++) {
            DUE.due("1: value " + k, t.value(k, 0), StatementTables.NONE);
        }
        DUE.due("1: the stack is empty", t.one(0), StatementTables.TOO_FEW);
        for (int s = 0; s < 4; s++) {
            DUE.due("1: nothing saved for load", t.load(s), StatementTables.NONE);
            DUE.due("1: nothing saved for differences", t.differences(s), StatementTables.NONE);
        }
        DUE.due("1: check is off", t.uncheck(), 0);
        DUE.due("1: first row", t.insert(1, 7, 0, 5), 1);
        DUE.due("1: unique is off", t.insert(2, 9, 0, 5), 2);
        for (int e = 0; e < 8; e++) {
            DUE.due("1: expression is the constant 1", t.sum(e, e), 2);
            DUE.due("1: expression is the constant 1", t.different(e, e), 1);
        }
        for (int p = 0; p < 3; p++) {
            Terms.express(t, 0, "p" + p);
            DUE.due("1: parameter is 0", t.greatest(1, 0), 0);
        }
    }

    /** A new object is new whatever was done with others, and stays so whatever is done. */
    private static void objectsShareNothing() {
        StatementTables earlier = new StatementTables();
        Sample.plain().accept(earlier);
        StatementTables t = new StatementTables();
        DUE.due("1: no row", t.rows(), 0);
        Sample.plain().accept(new StatementTables());
        DUE.due("1: no row", t.rows(), 0);
        DUE.due("1: the stack is empty", t.leaf(0, 1), 1);
        DUE.due("1: check is off", t.uncheck(), 0);
        for (int s = 0; s < 4; s++) {
            DUE.due("1: nothing is saved", t.load(s), StatementTables.NONE);
        }
        DUE.due("1: rows of the other", earlier.rows(), 6);
        DUE.due("1: check of the other", earlier.uncheck(), 1);
    }

    private static void constants() {
        DUE.due("BAD_ARG", StatementTables.BAD_ARG, -1000000001);
        DUE.due("FULL", StatementTables.FULL, -1000000002);
        DUE.due("TOO_FEW", StatementTables.TOO_FEW, -1000000003);
        DUE.due("NONE", StatementTables.NONE, -1000000004);
        DUE.due("FAULT", StatementTables.FAULT, -1000000005);
        DUE.due("BAD_KEY", StatementTables.BAD_KEY, -1000000006);
        DUE.due("NOT_UNIQUE", StatementTables.NOT_UNIQUE, -1000000007);
        DUE.due("UNCHECKED", StatementTables.UNCHECKED, -1000000008);
    }

    /** What is not private is what the document's face has, and no more. */
    private static void face() {
        Set<String> due = new TreeSet<>(Set.of(
                "BAD_ARG", "FULL", "TOO_FEW", "NONE", "FAULT", "BAD_KEY", "NOT_UNIQUE",
                "UNCHECKED", "new/0", "leaf/2", "one/1", "two/1", "choose/0", "scrap/0",
                "express/1", "parameter/2", "insert/4", "delete/1", "update/3", "copy/2",
                "unique/1", "check/1", "uncheck/0", "save/1", "load/1", "differences/1",
                "rows/0", "value/2", "count/1", "sum/2", "greatest/2", "different/2", "key/3"));
        Set<String> seen = new TreeSet<>();
        for (Field f : StatementTables.class.getDeclaredFields()) {
            note(seen, f.getModifiers(), f.getName());
        }
        for (Method m : StatementTables.class.getDeclaredMethods()) {
            note(seen, m.getModifiers(), m.getName() + "/" + m.getParameterCount());
        }
        for (Constructor<?> c : StatementTables.class.getDeclaredConstructors()) {
            note(seen, c.getModifiers(), "new/" + c.getParameterCount());
        }
        if (!seen.equals(due)) {
            System.out.println("the face is " + seen + ", due is " + due);
        }
        DUE.due("the face is the document's", seen.equals(due) ? 1 : 0, 1);
    }

    private static void note(Set<String> seen, int modifiers, String name) {
        if (!Modifier.isPrivate(modifiers)) {
            seen.add(Modifier.isPublic(modifiers) ? name : "hidden " + name);
        }
    }
}
