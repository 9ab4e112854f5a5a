import java.io.IOException;
import java.nio.file.Files;
import java.nio.file.Path;
import java.util.List;

/**
 * The program keeps to the rules of LANGUAGE.md that can be read off its text; each of these
 * readings finds what it is for, if that is put into the program.
 */
public final class LanguageTest {
    private static final Due DUE = new Due();
    /** A rule's number, and something to put at the class's end that breaks it. */
    private static final String[][] BREAKING = {
        {"1", "int shown() { return 0; }"},
        {"1", "int shown;"},
        {"1", "private int rows(int x) { return x; }"},
        {"1", "private static final class Inner { }"},
        {"1", "private enum Inner { ONE }"},
        {"2", "private float half;"},
        {"2", "private int f() { double x = 1; return (int) x; }"},
        {"2", "private String name;"},
        {"2", "private int f(int[][] x) { return x.length; }"},
        {"2", "private int f(Integer x) { return x; }"},
        {"2", "private Object f() { return this; }"},
        {"3", "private int f(int x) { return Math.abs(x); }"},
        {"3", "private int f() { return super.hashCode(); }"},
        {"4", "private void f() { int[] x = new int[3]; x[0] = 1; }"},
        {"4", "private final int[] more = new int[2 + 3];"},
        {"4", "private final int[] more = {1, 2};"},
        {"4", "private int[] f() { return results; }"},
        {"4", "private void f(int[] x) { results = x; }"},
        {"4", "private boolean f() { return results == null; }"},
        {"5", "private static int made;"},
        {"5", "private static final boolean YES = true;"},
        {"5", "static { }"},
        {"6", "private int f() { throw null; }"},
        {"6", "private int f() { try { return 1; } finally { stacked = 0; } }"},
        {"6", "private void f() { assert stacked == 0; }"},
        {"6", "private void f() { synchronized (this) { stacked = 0; } }"},
        {"6", "private void f() { g(x -> x); }"},
        {"8", "private int f(int x) { return x == 0 ? 0 : f(x - 1); }"},
        {"8", "private int f() { return g(); } private int g() { return f(); }"},
        {"10", "private int f(int a, int b, int c, int d, int e, int g, int h, int i) "
            + "{ return a; }"},
        {"10", "private boolean f(int x) { return isKey(slotOf(x, x)); }"},
        {"10", "private int f(int w) {" + "\n".repeat(70) + "return w; }"},
        {"10", "private int f() { return load(0); } private int g() { return f(); }"
            + "private int h() { return g(); }"},
        {"10", "private int x;".repeat(40)}};

    public static void main(String[] args) throws IOException {
        String program = Files.readString(Path.of("src/main/java/StatementTables.java"));
        List<String> broken = Language.broken(program);
        broken.forEach(line -> System.out.println("rule " + line));
        DUE.due("rules broken by the program", broken.size(), 0);
        for (String[] breaking : BREAKING) {
            finds(breaking[0], program, breaking[1]);
        }
        DUE.end();
    }

    private static void finds(String rule, String program, String more) throws IOException {
        int end = program.lastIndexOf('}');
        List<String> broken = Language.broken(program.substring(0, end) + more + "\n}\n");
        boolean found = broken.stream().anyMatch(line -> line.startsWith(rule + " "));
        DUE.due("rule " + rule + " found broken (1) or not (0) by: " + more, found ? 1 : 0, 1);
    }
}
