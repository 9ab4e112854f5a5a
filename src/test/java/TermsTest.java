/** Promises 2 to 8, and what terms are. */
public final class TermsTest {
    private static final Due DUE = new Due();
    private static final int MAX = Integer.MAX_VALUE;
    private static final int MIN = Integer.MIN_VALUE;

    public static void main(String[] args) {
        leaf();
        one();
        two();
        choose();
        partsOfWholeStack();
        scrap();
        express();
        parameter();
        values();
        wrapping();
        faults();
        leftOutParts();
        DUE.end();
    }

    private static void leaf() {
        StatementTables t = new StatementTables();
        int[][] good = {{0, -99}, {0, 99}, {1, 0}, {1, 3}, {2, 0}, {2, 2}};
        for (int i = 0; i < good.length; i++) {
            DUE.due("2: good leaf " + i, t.leaf(good[i][0], good[i][1]), i + 1);
        }
        t.leaf(0, 0);
        DUE.due("2: eighth", t.leaf(0, 0), 8);
        DUE.due("2: ninth", t.leaf(0, 0), StatementTables.FULL);
        int[][] bad = {{0, -100}, {0, 100}, {1, -1}, {1, 4}, {2, -1}, {2, 3}, {-1, 0}, {3, 0},
            {MIN, 0}, {MAX, 0}, {0, MIN}, {1, MAX}, {2, MIN}};
        for (int[] b : bad) {
            DUE.due("2: bad leaf before FULL", t.leaf(b[0], b[1]), StatementTables.BAD_ARG);
        }
        t.scrap();
        for (int[] b : bad) {
            DUE.due("2: bad leaf", t.leaf(b[0], b[1]), StatementTables.BAD_ARG);
        }
        DUE.due("2: bad leaves push nothing", t.leaf(0, 0), 1);
    }

    private static void one() {
        StatementTables t = new StatementTables();
        DUE.due("3: empty", t.one(0), StatementTables.TOO_FEW);
        DUE.due("3: empty", t.one(1), StatementTables.TOO_FEW);
        for (int op : new int[] {-1, 2, MIN, MAX}) {
            DUE.due("3: bad op before TOO_FEW", t.one(op), StatementTables.BAD_ARG);
        }
        t.leaf(0, 3);
        t.leaf(0, 4);
        DUE.due("3: number on the stack", t.one(0), 2);
        DUE.due("3: number on the stack", t.one(1), 2);
        t.scrap();
        t.leaf(0, 3);
        for (int parts = 2; parts <= 24; parts++) {
            DUE.due("3: part " + parts, t.one(0), 1);
        }
        DUE.due("3: part 25", t.one(0), StatementTables.FULL);
        DUE.due("3: part 25", t.one(1), StatementTables.FULL);
        DUE.due("3: bad op before FULL", t.one(2), StatementTables.BAD_ARG);
        DUE.due("4: FULL before TOO_FEW", t.two(0), StatementTables.FULL);
        DUE.due("4: bad op before FULL", t.two(10), StatementTables.BAD_ARG);
        DUE.due("5: FULL before TOO_FEW", t.choose(), StatementTables.FULL);
        DUE.due("2: FULL for 24 parts", t.leaf(0, 0), StatementTables.FULL);
        DUE.due("2: bad leaf before FULL", t.leaf(0, 100), StatementTables.BAD_ARG);
        DUE.due("7: all 24 parts are there", t.express(0), 24);
        t.insert(0, 0, 0, 0);
        DUE.due("3: the top is what it was", t.sum(1, 0), -3);
    }

    private static void two() {
        StatementTables t = new StatementTables();
        DUE.due("4: empty", t.two(0), StatementTables.TOO_FEW);
        for (int op : new int[] {-1, 10, MIN, MAX}) {
            DUE.due("4: bad op before TOO_FEW", t.two(op), StatementTables.BAD_ARG);
        }
        t.leaf(0, 1);
        DUE.due("4: only one", t.two(9), StatementTables.TOO_FEW);
        DUE.due("4: a refused two takes nothing", t.leaf(0, 1), 2);
        t.leaf(0, 1);
        DUE.due("4: three are two", t.two(9), 2);
        DUE.due("4: two are one", t.two(0), 1);
    }

    private static void choose() {
        StatementTables t = new StatementTables();
        DUE.due("5: empty", t.choose(), StatementTables.TOO_FEW);
        t.leaf(0, 1);
        DUE.due("5: only one", t.choose(), StatementTables.TOO_FEW);
        t.leaf(0, 1);
        DUE.due("5: only two", t.choose(), StatementTables.TOO_FEW);
        DUE.due("5: a refused choose takes nothing", t.leaf(0, 1), 3);
        t.leaf(0, 1);
        DUE.due("5: four are two", t.choose(), 2);
    }

    /** The 24 parts are those of all terms on the stack together. */
    private static void partsOfWholeStack() {
        StatementTables t = new StatementTables();
        for (int i = 1; i <= 8; i++) {
            t.leaf(0, i);
        }
        for (int i = 0; i < 15; i++) {
            DUE.due("3: on a full stack", t.one(0), 8);
        }
        DUE.due("4: the 24th part", t.two(0), 7);
        DUE.due("2: 24 parts in 7 terms", t.leaf(0, 0), StatementTables.FULL);
        DUE.due("3: 24 parts in 7 terms", t.one(0), StatementTables.FULL);
        DUE.due("4: 24 parts in 7 terms", t.two(0), StatementTables.FULL);
        DUE.due("5: 24 parts in 7 terms", t.choose(), StatementTables.FULL);
        DUE.due("7: 7 terms", t.express(0), StatementTables.TOO_FEW);
        t.scrap();
        DUE.due("6: after scrap there is room", Terms.push(t, "1 2 3 choose neg"), 1);
        DUE.due("7: 5 parts", t.express(0), 5);
    }

    private static void scrap() {
        StatementTables t = new StatementTables();
        t.scrap();
        DUE.due("6: scrap of nothing", t.leaf(0, 9), 1);
        t.leaf(0, 8);
        t.scrap();
        DUE.due("6: empty after scrap", t.one(0), StatementTables.TOO_FEW);
        DUE.due("6: first after scrap", t.leaf(0, 7), 1);
        DUE.due("6: no part is left", t.express(0), 1);
        t.insert(1, 0, 0, 0);
        DUE.due("6: only the new term", t.sum(1, 0), 7);
    }

    private static void express() {
        StatementTables t = new StatementTables();
        t.insert(1, 20, 0, 0);
        for (int e : new int[] {-1, 8, MIN, MAX}) {
            DUE.due("7: bad e before TOO_FEW", t.express(e), StatementTables.BAD_ARG);
        }
        DUE.due("7: empty", t.express(0), StatementTables.TOO_FEW);
        t.leaf(0, 5);
        t.leaf(1, 1);
        DUE.due("7: two terms", t.express(0), StatementTables.TOO_FEW);
        DUE.due("7: refused, e is what it was", t.sum(0, 0), 1);
        DUE.due("7: refused, the stack is what it was", t.two(1), 1);
        DUE.due("7: bad e", t.express(8), StatementTables.BAD_ARG);
        DUE.due("7: parts", t.express(7), 3);
        DUE.due("7: the stack is empty", t.one(0), StatementTables.TOO_FEW);
        DUE.due("7: expression 7", t.sum(0, 7), -15);
        DUE.due("7: others stay", t.sum(0, 6), 1);
        DUE.due("7: a shorter one", Terms.express(t, 7, "a"), 1);
        DUE.due("7: the new one", t.sum(0, 7), 20);
        for (int e = 0; e < 8; e++) {
            DUE.due("7: each its own", Terms.express(t, e, "" + (10 + e)), 1);
        }
        for (int e = 0; e < 8; e++) {
            DUE.due("7: each its own", t.sum(0, e), 10 + e);
        }
    }

    private static void parameter() {
        StatementTables t = new StatementTables();
        t.insert(1, 0, 0, 0);
        for (int p = 0; p < 3; p++) {
            Terms.express(t, p + 1, "p" + p);
            DUE.due("8: parameter", t.parameter(p, 100 + p), 0);
        }
        for (int p : new int[] {-1, 3, MIN, MAX}) {
            DUE.due("8: bad p", t.parameter(p, 5), StatementTables.BAD_ARG);
        }
        for (int p = 0; p < 3; p++) {
            DUE.due("8: value", t.sum(0, p + 1), 100 + p);
        }
        DUE.due("8: any int", t.parameter(1, MIN), 0);
        DUE.due("8: any int", t.sum(0, 2), MIN);
        DUE.due("8: any int", t.parameter(1, MAX), 0);
        DUE.due("8: any int", t.sum(0, 2), MAX);
    }

    private static void values() {
        expect("key", 7);
        expect("a", 20);
        expect("b", -3);
        expect("c", 0);
        expect("-99", -99);
        expect("a neg", -20);
        expect("b neg", 3);
        expect("a not", 0);
        expect("b not", 0);
        expect("c not", 1);
        expect("a b +", 17);
        expect("a b -", 23);
        expect("a b *", -60);
        expect("a b /", -6);
        expect("b 2 /", -1);
        expect("a b <", 0);
        expect("b a <", 1);
        expect("a a <", 0);
        expect("a b =", 0);
        expect("a 20 =", 1);
        expect("a b min", -3);
        expect("b a min", -3);
        expect("a b max", 20);
        expect("b a max", 20);
        expect("a b and", 1);
        expect("a c and", 0);
        expect("c a and", 0);
        expect("c c and", 0);
        expect("a b or", 1);
        expect("a c or", 1);
        expect("c b or", 1);
        expect("c c or", 0);
        expect("a 5 6 choose", 5);
        expect("b 5 6 choose", 5);
        expect("c 5 6 choose", 6);
        expect("1 2 3 4 5 6 7 8 - - - - - - -", -4);
        expect("a b - 2 * key neg + 3 /", 13);
        expect("1 2 3 choose 4 5 6 choose 0 8 9 choose choose", 5);
    }

    private static void wrapping() {
        expectWith(MAX, 1, "p0 p1 +", MIN);
        expectWith(MIN, 1, "p0 p1 -", MAX);
        expectWith(MAX, MAX, "p0 p1 *", 1);
        expectWith(MIN, -1, "p0 p1 *", MIN);
        expectWith(65536, 65536, "p0 p1 *", 0);
        expectWith(MIN, -1, "p0 p1 /", MIN);
        expectWith(MIN, 0, "p0 neg", MIN);
        expectWith(MIN, MAX, "p0 p1 <", 1);
        expectWith(MAX, MIN, "p0 p1 <", 0);
        expectWith(MIN, MAX, "p0 p1 min", MIN);
        expectWith(MIN, MAX, "p0 p1 max", MAX);
        expectWith(MIN, MIN, "p0 p1 =", 1);
        expectWith(MAX, 0, "p0 p0 + p0 +", MAX - 2);
        expectWith(65536, 0, "p0 p0 * not", 1);
    }

    private static void faults() {
        String[] faulty = {"a 0 /", "c c /", "a c / neg", "a c / not", "a c / not not"};
        for (String words : faulty) {
            expect(words, StatementTables.FAULT);
        }
        for (String op : "+ - * / < = min max".split(" ")) {
            expect("a c / 1 " + op, StatementTables.FAULT);
            expect("1 a c / " + op, StatementTables.FAULT);
            expect("0 a c / " + op, StatementTables.FAULT);
        }
        expect("a c / 0 and", StatementTables.FAULT);
        expect("a c / 1 or", StatementTables.FAULT);
        expect("1 a c / and", StatementTables.FAULT);
        expect("-5 a c / and", StatementTables.FAULT);
        expect("0 a c / or", StatementTables.FAULT);
        expect("a c / 1 1 choose", StatementTables.FAULT);
        expect("1 a c / 1 choose", StatementTables.FAULT);
        expect("0 1 a c / choose", StatementTables.FAULT);
    }

    private static void leftOutParts() {
        expect("0 a c / and", 0);
        expect("1 a c / or", 1);
        expect("-5 a c / or", 1);
        expect("5 3 a c / choose", 3);
        expect("0 a c / 4 choose", 4);
        expect("0 a c / neg 1 + and not", 1);
        expect("0 0 a c / and or", 0);
        expect("1 1 a c / or and", 1);
        expect("0 1 a c / and 6 choose", 6);
    }

    private static void expect(String words, int want) {
        expectWith(0, 0, words, want);
    }

    private static void expectWith(int p0, int p1, String words, int want) {
        StatementTables t = new StatementTables();
        t.insert(7, 20, -3, 0);
        t.parameter(0, p0);
        t.parameter(1, p1);
        Terms.express(t, 1, words);
        DUE.due("the term " + words, t.sum(0, 1), want);
    }
}
