import java.util.ArrayList;
import java.util.Arrays;
import java.util.List;
import java.util.TreeMap;
import java.util.function.Consumer;

/**
 * "No call ever throws": every call, with arguments at, before and behind each bound and with the
 * least and the greatest int, in every mixture, on an empty, a common and a full object; each
 * answer, and the rows and the stack after it, are compared with the model's.
 */
public final class AnyArgumentsTest {
    private static final int MAX = Integer.MAX_VALUE;
    private static final int MIN = Integer.MIN_VALUE;
    private static final int[] EXPRESSION = {MIN, -1, 0, 1, 2, 3, 4, 7, 8, MAX};
    private static final int[] COLUMN = {MIN, -1, 0, 1, 2, 3, 4, MAX};
    private static final int[] PLACE = {MIN, -1, 0, 1, 2, 3, 4, 5, MAX};
    private static final int[] KEY = {MIN, -51, -50, -49, -7, 0, 1, 49, 50, 51, MAX};
    private static final int[] LEAF =
        {MIN, -100, -99, -1, 0, 1, 2, 3, 4, 99, 100, MAX};
    private static final int[] SMALL = {MIN, -1, 0, 1, 2, 3, 4, 9, 10, 11, 39, 40, 41, MAX};
    private static final int[] ANY = {MIN, -1, 0, 1, MAX};
    private static final int[] VALUE = {MIN, 0, MAX};

    private static int asked;

    public static void main(String[] args) {
        boolean good = true;
        List<Consumer<Pair>> setups = List.of(p -> { }, AnyArgumentsTest::common,
                AnyArgumentsTest::fullTable, AnyArgumentsTest::fullStack);
        for (Consumer<Pair> setup : setups) {
            good &= allCalls(setup);
        }
        System.out.println(asked + " calls asked, " + (good ? "all as due" : "not all as due"));
        if (!good) {
            System.exit(1);
        }
    }

    private static boolean allCalls(Consumer<Pair> setup) {
        boolean good = grid(setup, "leaf", SMALL, LEAF);
        good &= grid(setup, "one", SMALL);
        good &= grid(setup, "two", SMALL);
        good &= grid(setup, "choose");
        good &= grid(setup, "scrap");
        good &= grid(setup, "express", EXPRESSION);
        good &= grid(setup, "parameter", SMALL, ANY);
        good &= grid(setup, "insert", KEY, VALUE, VALUE, ANY);
        good &= grid(setup, "delete", EXPRESSION);
        good &= grid(setup, "update", EXPRESSION, COLUMN, EXPRESSION);
        good &= grid(setup, "copy", EXPRESSION, EXPRESSION);
        good &= grid(setup, "unique", ANY);
        good &= grid(setup, "check", EXPRESSION);
        good &= grid(setup, "uncheck");
        good &= grid(setup, "save", PLACE);
        good &= grid(setup, "load", PLACE);
        good &= grid(setup, "differences", PLACE);
        good &= grid(setup, "rows");
        good &= grid(setup, "value", KEY, COLUMN);
        good &= grid(setup, "count", EXPRESSION);
        good &= grid(setup, "sum", EXPRESSION, EXPRESSION);
        good &= grid(setup, "greatest", EXPRESSION, EXPRESSION);
        good &= grid(setup, "different", EXPRESSION, EXPRESSION);
        good &= grid(setup, "key", EXPRESSION, SMALL, ANY);
        return good;
    }

    /** Every mixture of the arguments, each on an object of its own. */
    private static boolean grid(Consumer<Pair> setup, String name, int[]... arguments) {
        List<int[]> mixtures = new ArrayList<>();
        mixtures.add(new int[0]);
        for (int[] values : arguments) {
            List<int[]> longer = new ArrayList<>();
            for (int[] mixture : mixtures) {
                for (int value : values) {
                    int[] next = Arrays.copyOf(mixture, mixture.length + 1);
                    next[mixture.length] = value;
                    longer.add(next);
                }
            }
            mixtures = longer;
        }
        for (int[] mixture : mixtures) {
            if (!isAsDue(setup, name, mixture)) {
                return false;
            }
        }
        return true;
    }

    private static boolean isAsDue(Consumer<Pair> setup, String name, int[] arguments) {
        Pair pair = new Pair(new TreeMap<>());
        setup.accept(pair);
        pair.make(name, arguments);
        asked++;
        pair.make("rows");
        for (int s = 0; s < 4; s++) {
            pair.make("differences", s);
        }
        pair.make("uncheck");
        pair.make("insert", 2, 0, 0, 14);
        pair.make("leaf", 0, 1);
        pair.make("one", 0);
        return !pair.isWrong();
    }

    private static void common(Pair p) {
        p.make("insert", -50, 4, -1, 11);
        p.make("insert", -7, 0, 5, 12);
        p.make("save", 0);
        p.make("insert", 0, -3, 2, 13);
        p.make("insert", 50, MAX, MIN, 14);
        p.make("save", 1);
        p.make("insert", 3, 8, 8, 15);
        term(p, 1, 1, 0, 0, 9, 4);
        term(p, 2, 1, 0, 0, 1, 0);
        term(p, 3, 0, 0, 0, 1, 2);
        term(p, 4, 0, 9, 1, 0, 3);
        term(p, 5, 1, 3, 2, 2, 4);
        p.make("parameter", 2, 70);
        p.make("unique", 1);
        p.make("check", 5);
        p.make("leaf", 1, 1);
        p.make("leaf", 1, 2);
    }

    /** Makes two leaves and two(op) expression e. */
    private static void term(Pair p, int e, int kindX, int x, int kindY, int y, int op) {
        p.make("leaf", kindX, x);
        p.make("leaf", kindY, y);
        p.make("two", op);
        p.make("express", e);
    }

    private static void fullTable(Pair p) {
        common(p);
        for (int k = -40; k < -5; k++) {
            p.make("insert", k == -7 ? 20 : k, k, 0, k);
        }
        p.make("unique", 0);
    }

    private static void fullStack(Pair p) {
        common(p);
        for (int i = 2; i < 8; i++) {
            p.make("leaf", 0, i);
        }
        for (int i = 8; i < 24; i++) {
            p.make("one", 0);
        }
        p.make("parameter", 2, 0);
    }
}
