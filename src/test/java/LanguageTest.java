import java.io.IOException;
import java.nio.file.Files;
import java.nio.file.Path;
import java.util.List;

/**
 * The program keeps to what Language reads of the rules; and each of its readings finds what it is
 * for, if that is put into the program.
 */
public final class LanguageTest {
    private static final Due DUE = new Due();
    private static final String HEAD = "public final class StatementTables {";
    /** A rule's number, what Language says, and, at the class's end, something that breaks it. */
    private static final String[][] AT_END = {
        {"1", "neither public nor private", "int shown() { return 0; }"},
        {"1", "a field that is not private", "int shown;"},
        {"1", "is public and private", "private int rows(int x) { return x; }"},
        {"1", "a nested class", "private static final class Inner { }"},
        {"1", "not a class", "private enum Inner { ONE }"},
        {"1", "not a class", "private interface Inner { }"},
        {"1", "not a class", "private record Inner(int x) { }"},
        {"2", "type float", "private float half;"},
        {"2", "type double", "private int f() { double x = 1; return (int) x; }"},
        {"2", "type String", "private String name;"},
        {"2", "type int[][]", "private int f(int[][] x) { return x.length; }"},
        {"2", "type Integer", "private int f(Integer x) { return x; }"},
        {"2", "what it answers", "private Object f() { return this; }"},
        {"2", "FLOAT_LITERAL", "private int f() { return (int) 1.5f; }"},
        {"2", "DOUBLE_LITERAL", "private int f() { return (int) 1.5; }"},
        {"2", "STRING_LITERAL", "private int f() { return \"x\".length(); }"},
        {"2", "NEW_CLASS", "private void f() { new StatementTables(); }"},
        {"3", "Math.abs", "private int f(int x) { return Math.abs(x); }"},
        {"3", "super.hashCode", "private int f() { return super.hashCode(); }"},
        {"4", "outside the fields", "private void f() { int[] x = new int[3]; x[0] = 1; }"},
        {"4", "outside the fields", "private void f() { int[] x = {1, 2}; x[0] = 1; }"},
        {"4", "a length", "private final int[] more = new int[2 + 3];"},
        {"4", "a length", "private final int[] more = {1, 2};"},
        {"4", "answers an array", "private int[] f() { return results; }"},
        {"4", "assigned to", "private void f(int[] x) { results = x; }"},
        {"4", "assigned to", "private void f(int[] x) { this.results = x; }"},
        {"4", "NULL_LITERAL", "private boolean f() { return results == null; }"},
        {"5", "not a constant", "private static int made;"},
        {"5", "not a constant", "private static final int LATER;"},
        {"5", "not a constant", "private static final boolean YES = true;"},
        {"5", "not a constant", "private static final int[] MANY = new int[3];"},
        {"5", "a static initialiser", "static { }"},
        {"6", "THROW", "private int f(RuntimeException e) { throw e; }"},
        {"6", "TRY", "private int f() { try { return 1; } finally { stacked = 0; } }"},
        {"6", "SYNCHRONIZED", "private void f() { synchronized (this) { stacked = 0; } }"},
        {"6", "ASSERT", "private void f() { assert stacked == 0; }"},
        {"6", "INSTANCE_OF", "private boolean f() { return this instanceof StatementTables; }"},
        {"6", "LAMBDA_EXPRESSION", "private void f() { g(x -> x); }"},
        {"6", "MEMBER_REFERENCE", "private void f() { g(this::rows); }"},
        {"6", "cast of a reference", "private void f() { g((Object) this); }"},
        {"8", "calls itself", "private int f(int x) { return x == 0 ? 0 : f(x - 1); }"},
        {"8", "calls itself", "private int f() { return g(); } private int g() { return f(); }"},
        {"8", "calls itself", "private int f() { return this.f(); }"},
        {"10", "many parameters", "private int f(int a, int b, int c, int d, int e, int g, int h, "
            + "int i) { return a; }"},
        {"10", "inside the arguments", "private boolean f(int x) { return isKey(slotOf(x, x)); }"},
        {"10", "inside the arguments", "private boolean f(int x) { return isKey(1 + rows()); }"},
        {"10", "is long", "private int f(int w) {" + "\n".repeat(70) + "return w; }"},
        {"10", "goes too deep", "private int d1() { return 1; } private int d2() { return d1(); }"
            + "private int d3() { return d2(); } private int d4() { return d3(); }"
            + "private int d5() { return d4(); } private int d6() { return d5(); }"
            + "private int d7() { return d6(); }"},
        {"10", " fields", "private int x;".repeat(40)}};
    /** The same, with what stands in place of the class's head. */
    private static final String[][] AT_HEAD = {
        {"1", "a package", "package tables; " + HEAD},
        {"1", "not one class", "interface Other { } " + HEAD},
        {"1", "not public final", "public class StatementTables {"},
        {"1", "not public final", "final class StatementTables {"},
        {"1", "above it", "public final class StatementTables extends Thread {"},
        {"1", "above it", "public final class StatementTables implements Runnable {"},
        {"3", "IMPORT", "import java.util.List; " + HEAD}};

    public static void main(String[] args) throws IOException {
        String program = Files.readString(Path.of("src/main/java/StatementTables.java"));
        List<String> broken = Language.broken(program);
        broken.forEach(line -> System.out.println("rule " + line));
        DUE.due("rules broken by the program", broken.size(), 0);
        int end = program.lastIndexOf('}');
        for (String[] row : AT_END) {
            finds(row, program.substring(0, end) + row[2] + "\n}\n");
        }
        DUE.due("the head stands once (1) or not (0),", program.split(HEAD.replace("{", "\\{"),
                -1).length == 2 ? 1 : 0, 1);
        for (String[] row : AT_HEAD) {
            finds(row, program.replace(HEAD, row[2]));
        }
        DUE.end();
    }

    private static void finds(String[] row, String text) throws IOException {
        boolean found = Language.broken(text).stream()
                .anyMatch(line -> line.startsWith(row[0] + " ") && line.contains(row[1]));
        DUE.due("rule " + row[0] + " found broken (1) or not (0) by: " + row[2], found ? 1 : 0, 1);
    }
}
