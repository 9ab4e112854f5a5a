import java.util.function.Consumer;
import java.util.function.ToIntFunction;

/** Promises 2 to 8: every sentence that names a bound or a refusal, in the document's words. */
public final class StackBoundsTest {
    private static final Due DUE = new Due();
    private static final Bounds BOUNDS = new Bounds(DUE);
    private static final int BAD_ARG = StatementTables.BAD_ARG;
    private static final int FULL = StatementTables.FULL;
    private static final int TOO_FEW = StatementTables.TOO_FEW;
    private static final int MAX = Integer.MAX_VALUE;
    private static final int MIN = Integer.MIN_VALUE;
    private static final String[] STACK =
        {"terms on the stack", "parts on the stack", "values of the stack"};

    public static void main(String[] args) {
        leafConstant();
        leafColumn();
        leafParameter();
        leafKind();
        leafStackHoldsEight();
        leafPartsAre24();
        leafOrder();
        oneOp();
        oneParts();
        oneTooFew();
        oneOrder();
        twoOp();
        twoParts();
        twoTooFew();
        twoOrder();
        chooseParts();
        chooseTooFew();
        chooseOrder();
        scrap();
        expressExpression();
        expressNotExactlyOne();
        expressParts();
        expressOrder();
        parameter();
        DUE.end();
    }

    /** The sample with a stack of so many terms and so many parts; the top has what is over. */
    private static Consumer<StatementTables> stack(int terms, int parts) {
        return t -> {
            Sample.fill(t);
            for (int i = 1; i <= terms; i++) {
                t.leaf(0, i);
            }
            for (int i = terms; i < parts; i++) {
                t.one(0);
            }
        };
    }

    /** "constant k (-99 to 99)". */
    private static void leafConstant() {
        for (int k : new int[] {-100, 100, MIN, MAX}) {
            BOUNDS.refused("2: constant " + k, stack(2, 4), t -> t.leaf(0, k), BAD_ARG);
        }
        for (int k : new int[] {-99, -1, 0, 99}) {
            DUE.due("2: constant " + k, valueOfLeaf(0, k), k);
        }
        BOUNDS.changes("2: constant 99", stack(2, 4), t -> t.leaf(0, 99), 3, STACK);
    }

    /** "column k (0 to 3)". */
    private static void leafColumn() {
        for (int k : new int[] {-1, 4, 99, MIN, MAX}) {
            BOUNDS.refused("2: column " + k, stack(2, 4), t -> t.leaf(1, k), BAD_ARG);
        }
        for (int k = 0; k <= 3; k++) {
            DUE.due("2: column " + k, valueOfLeaf(1, k), 30 + k);
        }
    }

    /** "parameter k (0 to 2)". */
    private static void leafParameter() {
        for (int k : new int[] {-1, 3, 4, MIN, MAX}) {
            BOUNDS.refused("2: parameter " + k, stack(2, 4), t -> t.leaf(2, k), BAD_ARG);
        }
        for (int k = 0; k <= 2; k++) {
            DUE.due("2: parameter " + k, valueOfLeaf(2, k), 40 + k);
        }
    }

    /** "kind or k out of its range answers BAD_ARG". */
    private static void leafKind() {
        for (int kind : new int[] {-1, 3, MIN, MAX}) {
            BOUNDS.refused("2: kind " + kind, stack(2, 4), t -> t.leaf(kind, 1), BAD_ARG);
        }
    }

    private static int valueOfLeaf(int kind, int k) {
        StatementTables t = new StatementTables();
        t.insert(30, 31, 32, 33);
        for (int p = 0; p < 3; p++) {
            t.parameter(p, 40 + p);
        }
        t.leaf(kind, k);
        t.express(1);
        return t.sum(0, 1);
    }

    /** "the stack holds 8 ... answers FULL". */
    private static void leafStackHoldsEight() {
        BOUNDS.changes("2: the stack holds 7", stack(7, 7), t -> t.leaf(1, 1), 8, STACK);
        for (int kind = 0; kind <= 2; kind++) {
            int leaf = kind;
            BOUNDS.refused("2: the stack holds 8", stack(8, 8), t -> t.leaf(leaf, 1), FULL);
        }
    }

    /** "or its terms have 24 parts together ... answers FULL". */
    private static void leafPartsAre24() {
        BOUNDS.changes("2: 23 parts", stack(1, 23), t -> t.leaf(0, 1), 2, STACK);
        for (int kind = 0; kind <= 2; kind++) {
            int leaf = kind;
            BOUNDS.refused("2: 24 parts in one term", stack(1, 24), t -> t.leaf(leaf, 1), FULL);
            BOUNDS.refused("2: 24 parts in 7 terms", stack(7, 24), t -> t.leaf(leaf, 1), FULL);
        }
        BOUNDS.refused("2: 24 parts in 8 terms", stack(8, 24), t -> t.leaf(0, 1), FULL);
    }

    /** "Tested in this order": BAD_ARG, FULL. */
    private static void leafOrder() {
        int[][] bad = {{0, 100}, {1, 4}, {2, 3}, {3, 0}, {-1, 0}};
        for (int[] b : bad) {
            BOUNDS.refused("2: BAD_ARG before 8 terms", stack(8, 8), t -> t.leaf(b[0], b[1]),
                    BAD_ARG);
            BOUNDS.refused("2: BAD_ARG before 24 parts", stack(1, 24), t -> t.leaf(b[0], b[1]),
                    BAD_ARG);
        }
    }

    /** "op not 0 or 1 answers BAD_ARG". */
    private static void oneOp() {
        for (int op : new int[] {-1, 2, MIN, MAX}) {
            BOUNDS.refused("3: op " + op, stack(2, 4), t -> t.one(op), BAD_ARG);
        }
        for (int op = 0; op <= 1; op++) {
            int good = op;
            BOUNDS.changes("3: op " + op, stack(2, 2), t -> t.one(good), 2,
                    "parts on the stack", "values of the stack");
        }
    }

    /** "24 parts answers FULL"; the number of terms does not matter for it. */
    private static void oneParts() {
        for (int op = 0; op <= 1; op++) {
            int good = op;
            BOUNDS.refused("3: 24 parts", stack(1, 24), t -> t.one(good), FULL);
            BOUNDS.refused("3: 24 parts in 3 terms", stack(3, 24), t -> t.one(good), FULL);
        }
        BOUNDS.changes("3: 23 parts", stack(1, 23), t -> t.one(0), 1, STACK);
        BOUNDS.changes("3: the stack holds 8", stack(8, 8), t -> t.one(0), 8,
                "parts on the stack", "values of the stack");
    }

    /** "TOO_FEW". */
    private static void oneTooFew() {
        BOUNDS.refused("3: no term", stack(0, 0), t -> t.one(0), TOO_FEW);
        BOUNDS.refused("3: no term", stack(0, 0), t -> t.one(1), TOO_FEW);
    }

    /** An empty stack has no part, so FULL and TOO_FEW never meet in one. */
    private static void oneOrder() {
        for (int op : new int[] {-1, 2}) {
            BOUNDS.refused("3: BAD_ARG before FULL", stack(1, 24), t -> t.one(op), BAD_ARG);
            BOUNDS.refused("3: BAD_ARG before TOO_FEW", stack(0, 0), t -> t.one(op), BAD_ARG);
        }
    }

    /** "op not 0 to 9 answers BAD_ARG". */
    private static void twoOp() {
        for (int op : new int[] {-1, 10, MIN, MAX}) {
            BOUNDS.refused("4: op " + op, stack(3, 5), t -> t.two(op), BAD_ARG);
        }
        for (int op = 0; op <= 9; op++) {
            int good = op;
            DUE.due("4: op " + op, onStack(3, 5, t -> t.two(good)), 2);
        }
        BOUNDS.changes("4: op 9", stack(3, 5), t -> t.two(9), 2, STACK);
    }

    private static int onStack(int terms, int parts,
            ToIntFunction<StatementTables> call) {
        StatementTables t = new StatementTables();
        stack(terms, parts).accept(t);
        return call.applyAsInt(t);
    }

    /** "24 parts answers FULL". */
    private static void twoParts() {
        for (int op = 0; op <= 9; op++) {
            int good = op;
            BOUNDS.refused("4: 24 parts", stack(2, 24), t -> t.two(good), FULL);
        }
        BOUNDS.refused("4: 24 parts in 8 terms", stack(8, 24), t -> t.two(0), FULL);
        DUE.due("4: 23 parts", onStack(2, 23, t -> t.two(0)), 1);
        DUE.due("4: 23 parts in 8 terms", onStack(8, 23, t -> t.two(9)), 7);
        DUE.due("4: the 24th part counts", onStack(2, 23, t -> t.two(0) + t.express(0)), 25);
    }

    /** "TOO_FEW". */
    private static void twoTooFew() {
        for (int op = 0; op <= 9; op++) {
            int good = op;
            BOUNDS.refused("4: no term", stack(0, 0), t -> t.two(good), TOO_FEW);
            BOUNDS.refused("4: one term", stack(1, 3), t -> t.two(good), TOO_FEW);
        }
        BOUNDS.refused("4: one term of 23 parts", stack(1, 23), t -> t.two(0), TOO_FEW);
    }

    /** "Tested in this order": BAD_ARG, FULL, TOO_FEW. */
    private static void twoOrder() {
        for (int op : new int[] {-1, 10}) {
            BOUNDS.refused("4: BAD_ARG before FULL", stack(2, 24), t -> t.two(op), BAD_ARG);
            BOUNDS.refused("4: BAD_ARG before TOO_FEW", stack(1, 1), t -> t.two(op), BAD_ARG);
            BOUNDS.refused("4: BAD_ARG before both", stack(1, 24), t -> t.two(op), BAD_ARG);
        }
        BOUNDS.refused("4: FULL before TOO_FEW", stack(1, 24), t -> t.two(0), FULL);
    }

    /** "24 parts answers FULL". */
    private static void chooseParts() {
        BOUNDS.refused("5: 24 parts", stack(3, 24), t -> t.choose(), FULL);
        BOUNDS.refused("5: 24 parts in 8 terms", stack(8, 24), t -> t.choose(), FULL);
        DUE.due("5: 23 parts", onStack(3, 23, t -> t.choose()), 1);
        DUE.due("5: the 24th part counts", onStack(3, 23, t -> t.choose() + t.express(0)), 25);
        BOUNDS.changes("5: 8 terms", stack(8, 8), t -> t.choose(), 6, STACK);
    }

    /** "TOO_FEW". */
    private static void chooseTooFew() {
        for (int terms = 0; terms <= 2; terms++) {
            BOUNDS.refused("5: " + terms + " terms", stack(terms, terms), t -> t.choose(),
                    TOO_FEW);
        }
        BOUNDS.refused("5: two terms of 23 parts", stack(2, 23), t -> t.choose(), TOO_FEW);
        DUE.due("5: three terms", onStack(3, 3, t -> t.choose()), 1);
    }

    /** "Tested in this order": FULL, TOO_FEW. */
    private static void chooseOrder() {
        BOUNDS.refused("5: FULL before TOO_FEW", stack(1, 24), t -> t.choose(), FULL);
        BOUNDS.refused("5: FULL before TOO_FEW", stack(2, 24), t -> t.choose(), FULL);
    }

    /** "Empties the stack": of terms, and of the parts that count for 24. */
    private static void scrap() {
        BOUNDS.leaves("6: an empty stack", stack(0, 0), StackBoundsTest::scrapped, 0);
        BOUNDS.changes("6: two terms", stack(2, 4), StackBoundsTest::scrapped, 0, STACK);
        for (int[] size : new int[][] {{1, 24}, {8, 8}, {8, 24}}) {
            StatementTables t = new StatementTables();
            stack(size[0], size[1]).accept(t);
            t.scrap();
            DUE.due("6: no term is left", t.one(0), TOO_FEW);
            for (int i = 1; i <= 8; i++) {
                DUE.due("6: room for 8 terms", t.leaf(0, 1), i);
            }
            for (int i = 8; i < 24; i++) {
                DUE.due("6: room for 24 parts", t.one(0), 8);
            }
            DUE.due("6: no more room", t.one(0), FULL);
        }
    }

    private static int scrapped(StatementTables t) {
        t.scrap();
        return 0;
    }

    /** "one that is not 0 to 7 answers BAD_ARG". */
    private static void expressExpression() {
        for (int e : new int[] {-1, 8, 9, MIN, MAX}) {
            BOUNDS.refused("7: e " + e, stack(1, 2), t -> t.express(e), BAD_ARG);
        }
        for (int e = 0; e <= 7; e++) {
            int good = e;
            BOUNDS.changes("7: e " + e, stack(1, 2), t -> t.express(good), 2, STACK[0], STACK[1],
                    STACK[2], e < 7 ? "expressions 0 to 6" : "expression 7");
        }
    }

    /** "TOO_FEW if it is not exactly one"; "the stack is empty afterwards". */
    private static void expressNotExactlyOne() {
        for (int terms : new int[] {0, 2, 3, 8}) {
            BOUNDS.refused("7: " + terms + " terms", stack(terms, terms), t -> t.express(1),
                    TOO_FEW);
        }
        BOUNDS.refused("7: two terms of 24 parts", stack(2, 24), t -> t.express(1), TOO_FEW);
        StatementTables t = new StatementTables();
        stack(1, 24).accept(t);
        t.express(3);
        DUE.due("7: empty afterwards", t.express(3), TOO_FEW);
        DUE.due("7: room for the next", t.leaf(0, 1), 1);
        DUE.due("7: the next has its own parts", t.express(3), 1);
    }

    /** "Otherwise the number of its parts": 1 to 24. */
    private static void expressParts() {
        for (int parts = 1; parts <= 24; parts++) {
            DUE.due("7: parts", onStack(1, parts, t -> t.express(0)), parts);
        }
        StatementTables t = new StatementTables();
        Terms.push(t, "1 2 3 4 5 6 7 8 + + + + + choose neg");
        DUE.due("7: parts of all kinds", t.express(0), 15);
    }

    /** "answers BAD_ARG before anything else": before TOO_FEW. */
    private static void expressOrder() {
        for (int e : new int[] {-1, 8}) {
            BOUNDS.refused("7: BAD_ARG, no term", stack(0, 0), t -> t.express(e), BAD_ARG);
            BOUNDS.refused("7: BAD_ARG, two terms", stack(2, 2), t -> t.express(e), BAD_ARG);
        }
    }

    /** "BAD_ARG if p is not 0 to 2. Otherwise 0." */
    private static void parameter() {
        for (int p : new int[] {-1, 3, MIN, MAX}) {
            BOUNDS.refused("8: p " + p, stack(2, 4), t -> t.parameter(p, 9), BAD_ARG);
        }
        for (int p = 0; p <= 2; p++) {
            for (int x : new int[] {MIN, -1, 0, 1, MAX, BAD_ARG, StatementTables.FAULT}) {
                StatementTables t = new StatementTables();
                t.insert(1, 0, 0, 0);
                Terms.express(t, 1, "p" + p);
                DUE.due("8: p " + p + " x " + x, t.parameter(p, x), 0);
                DUE.due("8: p " + p + " x " + x, t.sum(0, 1), x);
                Terms.express(t, 1, "p" + (p + 1) % 3 + " p" + (p + 2) % 3 + " or");
                DUE.due("8: the other two stay", t.sum(0, 1), 0);
            }
        }
    }
}
