import java.util.function.IntBinaryOperator;

/** What terms are: every operator at the bounds of the ints, and every way to a fault. */
public final class TermBoundsTest {
    private static final Due DUE = new Due();
    private static final int FAULT = StatementTables.FAULT;
    private static final int MAX = Integer.MAX_VALUE;
    private static final int MIN = Integer.MIN_VALUE;
    private static final int[] INTS = {MIN, MIN + 1, -65536, -46341, -99, -2, -1, 0, 1, 2, 3, 99,
        256, 46341, 65535, 65536, MAX - 1, MAX, FAULT, StatementTables.BAD_ARG};
    /** A fault, of as many parts as it can do with. */
    private static final String F = Terms.FAULT;

    public static void main(String[] args) {
        arithmeticWraps();
        divisionIsJavas();
        comparisons();
        andAndOr();
        negativeAndNot();
        choose();
        divisionBy0();
        faultInEveryOperand();
        faultGoesUp();
        notWorkedOut();
        notWorkedOutWithin();
        leftAndRight();
        columnsAndParameters();
        greatestTerms();
        DUE.end();
    }

    /** The value of a term for a row with a = x, b = y and parameters p0 = x, p1 = y. */
    private static int value(String words, int x, int y) {
        StatementTables t = new StatementTables();
        t.insert(-50, x, y, 0);
        t.parameter(0, x);
        t.parameter(1, y);
        DUE.due("parts of " + words, Terms.express(t, 1, words), words.split(" ").length);
        return t.sum(0, 1);
    }

    private static void expect(String words, int want) {
        DUE.due(words, value(words, 0, 0), want);
    }

    private static void forAllInts(String op, IntBinaryOperator due) {
        for (int x : INTS) {
            for (int y : INTS) {
                String what = x + " " + y + " " + op;
                int want = due.applyAsInt(x, y);
                DUE.due(what, value("a b " + op, x, y), want);
                DUE.due(what, value("p0 p1 " + op, x, y), want);
                boolean fault = op.equals("/") && y == 0;
                DUE.due(what + " below 0", value("a b " + op + " 0 <", x, y),
                        fault ? FAULT : want < 0 ? 1 : 0);
                DUE.due(what + " by 3", value("a b " + op + " 3 /", x, y),
                        fault ? FAULT : want / 3);
            }
        }
    }

    /** "arithmetic wraps". */
    private static void arithmeticWraps() {
        forAllInts("+", (x, y) -> x + y);
        forAllInts("-", (x, y) -> x - y);
        forAllInts("*", (x, y) -> x * y);
        DUE.due("wraps at each part", value("a b + b -", MAX, 1), MAX);
        DUE.due("wraps at each part", value("a b + 2 /", MAX, MAX), -1);
        DUE.due("wraps at each part", value("a b * a /", 65536, 65536), 0);
        DUE.due("wraps before it is compared", value("a b + a max", MAX, 1), MAX);
        DUE.due("wraps before not", value("a b * not", 65536, 65536), 1);
        DUE.due("wraps before and", value("a b * 1 and", 65536, 65536), 0);
        DUE.due("wraps before or", value("a b * 0 or", 65536, 65536), 0);
        DUE.due("wraps before choose", value("a b * 5 6 choose", 65536, 65536), 6);
        DUE.due("wraps before it divides", value("1 a b * /", 65536, 65536), FAULT);
    }

    /** "X / Y (Java's; a fault if Y is 0)". */
    private static void divisionIsJavas() {
        forAllInts("/", (x, y) -> y == 0 ? FAULT : x / y);
        DUE.due("the least by -1", value("a b /", MIN, -1), MIN);
        int[][] quotients = {{7, 2, 3}, {-7, 2, -3}, {7, -2, -3}, {-7, -2, 3}, {1, 2, 0},
            {-1, 2, 0}, {0, -5, 0}};
        for (int[] q : quotients) {
            DUE.due(q[0] + " / " + q[1], value("a b /", q[0], q[1]), q[2]);
        }
    }

    /** "1 if it holds, else 0"; "the lesser, the greater". */
    private static void comparisons() {
        forAllInts("<", (x, y) -> x < y ? 1 : 0);
        forAllInts("=", (x, y) -> x == y ? 1 : 0);
        forAllInts("min", (x, y) -> x < y ? x : y);
        forAllInts("max", (x, y) -> x > y ? x : y);
    }

    /** "0 if X is 0 ...; else 1 if Y is not 0, else 0", and or likewise: never X or Y itself. */
    private static void andAndOr() {
        forAllInts("and", (x, y) -> x != 0 && y != 0 ? 1 : 0);
        forAllInts("or", (x, y) -> x != 0 || y != 0 ? 1 : 0);
    }

    /** "0 - X; not X (1 if X is 0, else 0)". */
    private static void negativeAndNot() {
        for (int x : INTS) {
            DUE.due("0 - " + x, value("a neg", x, 0), 0 - x);
            DUE.due("0 - " + x + " below 0", value("a neg 0 <", x, 0), 0 - x < 0 ? 1 : 0);
            DUE.due("not " + x, value("a not", x, 0), x == 0 ? 1 : 0);
            DUE.due("not not " + x, value("a not not", x, 0), x == 0 ? 0 : 1);
        }
        DUE.due("0 - the least", value("a neg", MIN, 0), MIN);
    }

    /** "C; then X if it is not 0, else Y". */
    private static void choose() {
        for (int c : INTS) {
            DUE.due("choose by " + c, value("a 5 6 choose", c, 0), c != 0 ? 5 : 6);
            DUE.due("choose " + c, value("1 a 6 choose", c, 0), c);
            DUE.due("choose " + c, value("0 5 a choose", c, 0), c);
        }
    }

    /** "a fault if Y is 0", whatever X is and however Y comes to be 0. */
    private static void divisionBy0() {
        for (int x : INTS) {
            DUE.due(x + " / 0", value("a 0 /", x, 0), FAULT);
            DUE.due(x + " / 0 by wrapping", value("a b b * /", x, 65536), FAULT);
        }
        expect("0 key 50 + /", FAULT);
        expect("key 49 + key 50 + /", FAULT);
    }

    /** "if a part is a fault, so is the whole": with each operator, in each place. */
    private static void faultInEveryOperand() {
        expect(F + " neg", FAULT);
        expect(F + " not", FAULT);
        for (String other : new String[] {"0", "1", "-1"}) {
            for (String op : new String[] {"+", "-", "*", "/", "<", "=", "min", "max"}) {
                expect(F + " " + other + " " + op, FAULT);
                expect(other + " " + F + " " + op, FAULT);
            }
            expect(F + " " + other + " and", FAULT);
            expect(F + " " + other + " or", FAULT);
            expect(F + " " + other + " 3 choose", FAULT);
        }
        for (String op : new String[] {"+", "-", "*", "/", "<", "=", "min", "max", "and", "or"}) {
            expect(F + " " + F + " " + op, FAULT);
        }
        expect(F + " " + F + " " + F + " choose", FAULT);
        expect("1 " + F + " and", FAULT);
        expect("-99 " + F + " and", FAULT);
        expect("0 " + F + " or", FAULT);
        expect("1 " + F + " 3 choose", FAULT);
        expect("-99 " + F + " 3 choose", FAULT);
        expect("0 3 " + F + " choose", FAULT);
    }

    /** A fault stays one through every part above it. */
    private static void faultGoesUp() {
        expect(F + " neg neg neg neg neg neg neg neg neg neg neg neg neg neg neg neg neg neg neg"
                + " neg neg", FAULT);
        expect(F + " not not not 1 or", FAULT);
        expect(F + " 0 * 1 + not 5 6 choose", FAULT);
        expect("1 2 3 4 5 6 7 0 / + + + + + +", FAULT);
        expect(F + " " + F + " - 0 =", FAULT);
        expect(F + " " + F + " =", FAULT);
    }

    /** "Y is not worked out then"; "only these are worked out". */
    private static void notWorkedOut() {
        expect("0 " + F + " and", 0);
        expect("1 " + F + " or", 1);
        expect("-99 " + F + " or", 1);
        expect("99 3 " + F + " choose", 3);
        expect("-1 0 " + F + " choose", 0);
        expect("0 " + F + " 4 choose", 4);
        expect("0 " + F + " 0 choose", 0);
        for (int x : INTS) {
            DUE.due("and by " + x, value("a " + F + " and", x, 0), x == 0 ? 0 : FAULT);
            DUE.due("or by " + x, value("a " + F + " or", x, 0), x == 0 ? FAULT : 1);
            DUE.due("choose by " + x, value("a 3 " + F + " choose", x, 0), x == 0 ? FAULT : 3);
            DUE.due("choose by " + x, value("a " + F + " 4 choose", x, 0), x == 0 ? 4 : FAULT);
        }
    }

    /** A part that is not worked out may hold others of every kind. */
    private static void notWorkedOutWithin() {
        expect("0 " + F + " 1 + neg and", 0);
        expect("0 1 " + F + " and and", 0);
        expect("1 0 " + F + " or or", 1);
        expect("0 0 " + F + " and or", 0);
        expect("1 1 " + F + " or and", 1);
        expect("1 0 " + F + " or and", FAULT);
        expect("0 1 " + F + " and or", FAULT);
        expect("1 0 " + F + " 7 choose 8 choose", 7);
        expect("0 6 1 7 " + F + " choose choose", 7);
        expect("0 1 7 " + F + " choose " + F + " choose", FAULT);
        expect("0 " + F + " and 1 +", 1);
        expect("1 " + F + " or 1 +", 2);
        expect("5 0 " + F + " and -", 5);
        expect("5 1 " + F + " or -", 4);
        expect("0 " + F + " and " + F + " 9 choose", 9);
        expect("0 " + F + " and not 8 " + F + " choose", 8);
        expect("0 " + F + " and 0 " + F + " and or", 0);
        expect("0 " + F + " and 1 " + F + " or +", 1);
        expect("0 " + F + " and " + F + " +", FAULT);
    }

    /** Y is the top, X the one below; the operators keep them apart. */
    private static void leftAndRight() {
        expect("7 2 -", 5);
        expect("7 2 /", 3);
        expect("7 2 <", 0);
        expect("2 7 <", 1);
        expect("1 2 3 - -", 2);
        expect("1 2 - 3 -", -4);
        expect("99 9 3 / /", 33);
        expect("99 9 / 3 /", 3);
        expect("0 1 2 choose", 2);
        expect("1 0 2 choose", 0);
        expect("1 2 0 choose", 2);
        expect("9 1 2 3 choose -", 7);
        expect("1 2 3 choose 9 -", -7);
    }

    /** "column (0 key, 1 a, 2 b, 3 c of the row); parameter". */
    private static void columnsAndParameters() {
        StatementTables t = new StatementTables();
        int[][] rows = {{-50, MIN, MAX, -1}, {0, 1, 2, 3}, {50, MAX, MIN, FAULT}};
        String[] columns = {"key", "a", "b", "c"};
        for (int[] row : rows) {
            t.insert(row[0], row[1], row[2], row[3]);
            for (int col = 0; col <= 3; col++) {
                Terms.express(t, 1, columns[col]);
                DUE.due("column " + col, t.sum(0, 1), row[col]);
            }
            t.delete(0);
        }
        t.insert(1, 0, 0, 0);
        int[] values = {MIN, FAULT, MAX};
        for (int p = 0; p <= 2; p++) {
            Terms.express(t, 1, "p" + p);
            DUE.due("parameter 0 at first", t.sum(0, 1), 0);
            t.parameter(p, values[p]);
            DUE.due("the parameter of now", t.sum(0, 1), values[p]);
        }
    }

    /** 8 terms on the stack, 24 parts. */
    private static void greatestTerms() {
        expect("1 2 3 4 5 6 7 8 + + + + + + +", 36);
        expect("1 2 3 4 5 6 7 8 - - - - - - -", -4);
        expect("1 2 - 3 - 4 - 5 - 6 - 7 - 8 - 9 - 10 - 11 - 12 -", -76);
        expect("1 2 + 3 + 4 + 5 + 6 + 7 + 8 + 9 + 10 + 11 + 12 + neg", -78);
        expect("0 1 0 2 0 3 4 choose choose choose", 4);
        expect("1 0 5 6 choose 0 7 8 choose choose", 6);
        expect("0 1 2 choose 3 4 choose neg neg neg neg neg neg neg neg neg neg neg neg neg neg"
                + " neg neg neg", -3);
    }
}
