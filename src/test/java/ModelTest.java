import java.util.TreeMap;

/** Long mixed runs, the same every time, on the program and on the model: all answers agree. */
public final class ModelTest {
    private static final int RUNS = 6000;
    // With the look at all cells at the end a run stays within 512 calls.
    private static final int CALLS = 185;
    private static final int[] EXTREMES =
        {Integer.MIN_VALUE, Integer.MIN_VALUE + 1, Integer.MAX_VALUE, 65536, 46341};
    private static final String[] NAMES = {"leaf", "one", "two", "choose", "scrap", "express",
        "parameter", "insert", "delete", "update", "copy", "unique", "check", "uncheck", "save",
        "load", "differences", "rows", "value", "count", "sum", "greatest", "different", "key"};
    /** How often each call is made, in the order of NAMES; terms are also made whole. */
    private static final int[] WEIGHTS = {4, 2, 3, 2, 1, 3,
        8, 30, 3, 18, 14, 6, 8, 3, 6,
        10, 8, 3, 10, 8, 12, 10, 10, 14};

    private static long seed;
    private static final TreeMap<String, Integer> SEEN = new TreeMap<>();

    private final Pair pair = new Pair(SEEN);

    public static void main(String[] args) {
        int bad = 0;
        for (int run = 0; run < RUNS && bad < 3; run++) {
            seed = run;
            if (!new ModelTest().run(run % 3)) {
                bad++;
                System.out.println("in run " + run);
            }
        }
        if (bad == 0) {
            missing();
        }
        System.out.println(bad == 0 ? "program and model agree" : "program and model differ");
        if (bad != 0) {
            System.exit(1);
        }
    }

    /** A code that no run has seen shows that the runs have become too tame to tell anything. */
    private static void missing() {
        String[] due = {"leaf FULL", "one FULL", "two FULL", "choose FULL", "one TOO_FEW",
            "two TOO_FEW", "choose TOO_FEW", "express TOO_FEW", "insert BAD_KEY", "insert FULL",
            "insert NOT_UNIQUE", "insert UNCHECKED", "delete FAULT", "update FAULT",
            "update BAD_KEY", "update NOT_UNIQUE", "update UNCHECKED", "copy FAULT", "copy FULL",
            "copy BAD_KEY", "copy NOT_UNIQUE", "copy UNCHECKED", "unique NOT_UNIQUE",
            "check UNCHECKED", "load NONE", "load NOT_UNIQUE", "load UNCHECKED",
            "differences NONE", "value NONE", "count FAULT", "sum FAULT", "greatest FAULT",
            "greatest NONE", "different FAULT", "key FAULT", "key NONE"};
        for (String d : due) {
            if (!SEEN.containsKey(d)) {
                System.out.println("no run has seen " + d);
                System.exit(1);
            }
        }
    }

    private boolean run(int profile) {
        if (profile == 1) {
            fill();
        }
        while (pair.calls() < CALLS && !pair.isWrong()) {
            if (below(5) == 0 && pair.calls() < CALLS - 30) {
                makeTerm();
            } else {
                call(pick());
            }
        }
        pair.lookAtCells();
        return !pair.isWrong();
    }

    private static int below(int bound) {
        seed = seed * 6364136223846793005L + 1442695040888963407L;
        return (int) ((seed >>> 33) % bound);
    }

    private static int between(int least, int most) {
        return least + below(most - least + 1);
    }

    private static int pick() {
        int total = 0;
        for (int weight : WEIGHTS) {
            total += weight;
        }
        int left = below(total);
        int call = 0;
        while (left >= WEIGHTS[call]) {
            left -= WEIGHTS[call];
            call++;
        }
        return call;
    }

    private static int wild(int least, int most) {
        return below(25) == 0 ? between(least - 2, most + 2) : between(least, most);
    }

    private static int anyInt() {
        return below(12) == 0 ? EXTREMES[below(EXTREMES.length)] : between(-3, 12);
    }

    /** Near the most rows, so that the limits are met. */
    private void fill() {
        int rows = between(18, 39);
        for (int i = 0; i < rows; i++) {
            make("insert", (i * 7) % 101 - 50, between(-2, 5), between(-2, 5), i);
        }
    }

    /** A whole term: leaves and operators until one is left, then express. */
    private void makeTerm() {
        make("scrap");
        int leaves = between(1, 5);
        int stacked = 0;
        while (leaves > 0 || stacked > 1) {
            int kind = below(6);
            if (leaves > 0 && (stacked < 2 || kind < 3)) {
                makeLeaf();
                leaves--;
                stacked++;
            } else if (kind == 0) {
                make("one", below(2));
            } else if (kind < 3 && stacked >= 3) {
                make("choose");
                stacked -= 2;
            } else {
                make("two", below(10));
                stacked--;
            }
        }
        make("express", below(8));
    }

    private void makeLeaf() {
        int kind = below(5);
        if (kind < 2) {
            make("leaf", 0, between(-3, 12));
        } else if (kind < 4) {
            make("leaf", 1, below(2) == 0 ? 0 : below(4));
        } else {
            make("leaf", 2, below(3));
        }
    }

    private void call(int call) {
        int w = wild(0, 7);
        int e = wild(0, 7);
        switch (NAMES[call]) {
            case "leaf":
                makeSomeLeaves();
                break;
            case "one":
                makeSomeOnes();
                break;
            case "two":
                make("two", wild(0, 9));
                break;
            case "parameter":
                make("parameter", wild(0, 2), anyInt());
                break;
            case "insert":
                make("insert", wild(-50, 50), anyInt(), anyInt(), between(-10, 60));
                break;
            case "update":
                make("update", w, wild(0, 3), e);
                break;
            case "unique":
                make("unique", below(3) - 1);
                break;
            case "save":
            case "load":
            case "differences":
                make(NAMES[call], wild(0, 3));
                break;
            case "value":
                make("value", wild(-50, 50), wild(0, 3));
                break;
            case "express":
            case "delete":
            case "check":
            case "count":
                make(NAMES[call], w);
                break;
            case "copy":
            case "sum":
            case "greatest":
            case "different":
                make(NAMES[call], w, e);
                break;
            case "key":
                make("key", w, between(-1, 12), below(3) - 1);
                break;
            default:
                make(NAMES[call]);
                break;
        }
    }

    private void makeSomeLeaves() {
        for (int i = below(10); i >= 0; i--) {
            int kind = wild(0, 2);
            make("leaf", kind, kind == 0 ? wild(-99, 99) : wild(0, kind == 1 ? 3 : 2));
        }
    }

    private void makeSomeOnes() {
        for (int i = below(22); i >= 0; i--) {
            make("one", wild(0, 1));
        }
        make("two", wild(0, 9));
        make("choose");
    }

    private void make(String name, int... x) {
        pair.make(name, x);
    }
}
