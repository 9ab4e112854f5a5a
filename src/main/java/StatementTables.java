/**
 * A table of rows with keys, changed by statements that do all or nothing, under conditions on
 * keys, values and whole rows, asked by expressions, saved and brought back.
 */
public final class StatementTables {
    public static final int BAD_ARG = -1000000001;
    public static final int FULL = -1000000002;
    public static final int TOO_FEW = -1000000003;
    public static final int NONE = -1000000004;
    public static final int FAULT = -1000000005;
    public static final int BAD_KEY = -1000000006;
    public static final int NOT_UNIQUE = -1000000007;
    public static final int UNCHECKED = -1000000008;

    private static final int LOWEST_KEY = -50;
    private static final int HIGHEST_KEY = 50;
    private static final int KEYS = 101;
    private static final int COLUMNS = 4;
    private static final int KEY_COLUMN = 0;
    private static final int C_COLUMN = 3;
    private static final int MOST_ROWS = 40;
    private static final int PARAMETERS = 3;
    private static final int GREATEST_CONSTANT = 99;
    private static final int LEAST_INT = -2147483648;

    // The tables 0 to 3 are the places of save. A statement builds NEXT, so that a refused one
    // has nothing to take back.
    private static final int PLACES = 4;
    private static final int CURRENT = 4;
    private static final int NEXT = 5;
    private static final int TABLES = 6;
    private static final int SLOTS = TABLES * KEYS;
    private static final int CELLS = SLOTS * COLUMNS;

    // The terms 0 to 7 are the expressions. STACK holds all terms of the stack one behind the
    // other: with operands before operators they need no marks between them.
    private static final int EXPRESSIONS = 8;
    private static final int CHECK = 8;
    private static final int STACK = 9;
    private static final int TERMS = 10;
    private static final int MOST_STACKED = 8;
    private static final int MOST_PARTS = 24;
    private static final int PARTS = TERMS * MOST_PARTS;

    // The kinds of parts: first those of leaf, then those of one, of two and of choose, each in
    // the order of its argument.
    private static final int CONSTANT = 0;
    private static final int COLUMN = 1;
    private static final int PARAMETER = 2;
    private static final int NEGATIVE = 3;
    private static final int NOT = 4;
    private static final int PLUS = 5;
    private static final int MINUS = 6;
    private static final int TIMES = 7;
    private static final int DIVIDED = 8;
    private static final int LESS = 9;
    private static final int EQUAL = 10;
    private static final int LESSER = 11;
    private static final int GREATER = 12;
    private static final int AND = 13;
    private static final int OR = 14;
    private static final int CHOOSE = 15;

    // Outside the ints, so that no value of a term is taken for it.
    private static final long FAULTY = 1L << 40;

    // A row stands in the slot of its key, so rows are ordered by rising key without sorting.
    private final boolean[] there = new boolean[SLOTS];
    private final int[] cells = new int[CELLS];
    private final boolean[] saved = new boolean[PLACES];

    private final int[] partKinds = new int[PARTS];
    private final int[] partNumbers = new int[PARTS];
    private final int[] partCounts = new int[TERMS];
    private final long[] operands = new long[MOST_STACKED];
    private int stacked;

    private final int[] parameters = new int[PARAMETERS];
    private boolean uniqueOn;
    private boolean checkOn;

    // For each slot of CURRENT: whether its row meets the w of the call, and its value of e.
    private final boolean[] meets = new boolean[KEYS];
    private final int[] results = new int[KEYS];

    public StatementTables() {
        for (int e = 0; e < EXPRESSIONS; e++) {
            partKinds[e * MOST_PARTS] = CONSTANT;
            partNumbers[e * MOST_PARTS] = 1;
            partCounts[e] = 1;
        }
    }

    public int leaf(int kind, int k) {
        if (!isLeaf(kind, k)) {
            return BAD_ARG;
        }
        if (stacked >= MOST_STACKED || partCounts[STACK] >= MOST_PARTS) {
            return FULL;
        }
        return addPart(kind, k, 0);
    }

    public int one(int op) {
        if (op < 0 || op > 1) {
            return BAD_ARG;
        }
        return combine(NEGATIVE + op, 1);
    }

    public int two(int op) {
        if (op < 0 || op > 9) {
            return BAD_ARG;
        }
        return combine(PLUS + op, 2);
    }

    public int choose() {
        return combine(CHOOSE, 3);
    }

    public void scrap() {
        partCounts[STACK] = 0;
        stacked = 0;
    }

    public int express(int e) {
        if (!isExpression(e)) {
            return BAD_ARG;
        }
        if (stacked != 1) {
            return TOO_FEW;
        }
        copyTerm(STACK, e);
        scrap();
        return partCounts[e];
    }

    public int parameter(int p, int x) {
        if (p < 0 || p >= PARAMETERS) {
            return BAD_ARG;
        }
        parameters[p] = x;
        return 0;
    }

    public int insert(int k, int a, int b, int c) {
        if (!isFree(CURRENT, k)) {
            return BAD_KEY;
        }
        int number = countRows(CURRENT);
        if (number >= MOST_ROWS) {
            return FULL;
        }
        copyTable(CURRENT, NEXT);
        putRow(k, a, b, c);
        return takeNext(number + 1);
    }

    public int delete(int w) {
        if (!isExpression(w)) {
            return BAD_ARG;
        }
        int met = selectRows(w);
        if (met == FAULT) {
            return FAULT;
        }
        for (int slot = 0; slot < KEYS; slot++) {
            if (meets[slot]) {
                there[CURRENT * KEYS + slot] = false;
            }
        }
        return met;
    }

    public int update(int w, int col, int e) {
        if (!isExpression(w) || !isExpression(e) || !isColumn(col)) {
            return BAD_ARG;
        }
        int met = selectResults(w, e);
        if (met == FAULT) {
            return FAULT;
        }
        if (!buildUpdated(col)) {
            return BAD_KEY;
        }
        return takeNext(met);
    }

    public int copy(int w, int e) {
        if (!isExpression(w) || !isExpression(e)) {
            return BAD_ARG;
        }
        int met = selectResults(w, e);
        if (met == FAULT) {
            return FAULT;
        }
        int number = countRows(CURRENT);
        if (number + met > MOST_ROWS) {
            return FULL;
        }
        if (!buildCopied()) {
            return BAD_KEY;
        }
        return takeNext(met);
    }

    public int unique(int on) {
        if (on != 0 && !isUnique(CURRENT)) {
            return NOT_UNIQUE;
        }
        uniqueOn = on != 0;
        return 0;
    }

    public int check(int e) {
        if (!isExpression(e)) {
            return BAD_ARG;
        }
        if (!allMeet(CURRENT, e)) {
            return UNCHECKED;
        }
        copyTerm(e, CHECK);
        checkOn = true;
        return countRows(CURRENT);
    }

    public int uncheck() {
        int before = checkOn ? 1 : 0;
        checkOn = false;
        return before;
    }

    public int save(int s) {
        if (!isPlace(s)) {
            return BAD_ARG;
        }
        copyTable(CURRENT, s);
        saved[s] = true;
        return countRows(CURRENT);
    }

    public int load(int s) {
        if (!isPlace(s)) {
            return BAD_ARG;
        }
        if (!saved[s]) {
            return NONE;
        }
        copyTable(s, NEXT);
        int number = countRows(NEXT);
        return takeNext(number);
    }

    public int differences(int s) {
        if (!isPlace(s)) {
            return BAD_ARG;
        }
        if (!saved[s]) {
            return NONE;
        }
        int number = 0;
        for (int slot = 0; slot < KEYS; slot++) {
            if (!isSameSlot(CURRENT * KEYS + slot, s * KEYS + slot)) {
                number++;
            }
        }
        return number;
    }

    public int rows() {
        return countRows(CURRENT);
    }

    public int value(int k, int col) {
        if (!isColumn(col)) {
            return BAD_ARG;
        }
        if (!isKey(k)) {
            return NONE;
        }
        int slot = slotOf(CURRENT, k);
        return there[slot] ? cells[slot * COLUMNS + col] : NONE;
    }

    public int count(int w) {
        if (!isExpression(w)) {
            return BAD_ARG;
        }
        return selectRows(w);
    }

    public int sum(int w, int e) {
        if (!isExpression(w) || !isExpression(e)) {
            return BAD_ARG;
        }
        int met = selectResults(w, e);
        if (met == FAULT) {
            return FAULT;
        }
        int total = 0;
        for (int slot = 0; slot < KEYS; slot++) {
            if (meets[slot]) {
                total += results[slot];
            }
        }
        return total;
    }

    public int greatest(int w, int e) {
        if (!isExpression(w) || !isExpression(e)) {
            return BAD_ARG;
        }
        int met = selectResults(w, e);
        if (met == FAULT) {
            return FAULT;
        }
        if (met == 0) {
            return NONE;
        }
        int highest = LEAST_INT;
        for (int slot = 0; slot < KEYS; slot++) {
            if (meets[slot] && results[slot] > highest) {
                highest = results[slot];
            }
        }
        return highest;
    }

    public int different(int w, int e) {
        if (!isExpression(w) || !isExpression(e)) {
            return BAD_ARG;
        }
        int met = selectResults(w, e);
        if (met == FAULT) {
            return FAULT;
        }
        int number = 0;
        for (int slot = 0; slot < KEYS; slot++) {
            if (meets[slot] && isNewResult(slot)) {
                number++;
            }
        }
        return number;
    }

    public int key(int w, int n, int down) {
        if (!isExpression(w)) {
            return BAD_ARG;
        }
        int met = selectRows(w);
        if (met == FAULT) {
            return FAULT;
        }
        if (n < 0 || n >= met) {
            return NONE;
        }
        int before = down == 0 ? n : met - 1 - n;
        for (int slot = 0; slot < KEYS; slot++) {
            if (meets[slot]) {
                if (before == 0) {
                    return slot + LOWEST_KEY;
                }
                before--;
            }
        }
        return NONE;
    }

    private static boolean isExpression(int e) {
        return e >= 0 && e < EXPRESSIONS;
    }

    private static boolean isColumn(int col) {
        return col >= 0 && col < COLUMNS;
    }

    private static boolean isPlace(int s) {
        return s >= 0 && s < PLACES;
    }

    private static boolean isKey(int k) {
        return k >= LOWEST_KEY && k <= HIGHEST_KEY;
    }

    private static boolean isLeaf(int kind, int k) {
        switch (kind) {
            case CONSTANT:
                return k >= -GREATEST_CONSTANT && k <= GREATEST_CONSTANT;
            case COLUMN:
                return isColumn(k);
            case PARAMETER:
                return k >= 0 && k < PARAMETERS;
            default:
                return false;
        }
    }

    private int combine(int kind, int taken) {
        if (partCounts[STACK] >= MOST_PARTS) {
            return FULL;
        }
        if (stacked < taken) {
            return TOO_FEW;
        }
        return addPart(kind, 0, taken);
    }

    private int addPart(int kind, int number, int taken) {
        int part = STACK * MOST_PARTS + partCounts[STACK];
        partKinds[part] = kind;
        partNumbers[part] = number;
        partCounts[STACK]++;
        stacked = stacked - taken + 1;
        return stacked;
    }

    private void copyTerm(int from, int to) {
        for (int i = 0; i < MOST_PARTS; i++) {
            partKinds[to * MOST_PARTS + i] = partKinds[from * MOST_PARTS + i];
            partNumbers[to * MOST_PARTS + i] = partNumbers[from * MOST_PARTS + i];
        }
        partCounts[to] = partCounts[from];
    }

    // Works out every part, also those that the document leaves out: a part changes nothing, and
    // a fault in one that is left out is dropped by the part above it.
    private long workOut(int term, int slot) {
        int first = term * MOST_PARTS;
        int end = first + partCounts[term];
        int top = -1;
        for (int i = first; i < end; i++) {
            int kind = partKinds[i];
            if (kind <= PARAMETER) {
                top++;
                operands[top] = leafValue(kind, partNumbers[i], slot);
            } else if (kind <= NOT) {
                operands[top] = oneValue(kind, operands[top]);
            } else if (kind <= OR) {
                top--;
                operands[top] = twoValue(kind, operands[top], operands[top + 1]);
            } else {
                top -= 2;
                operands[top] = chosenValue(operands[top], operands[top + 1], operands[top + 2]);
            }
        }
        return operands[0];
    }

    private int leafValue(int kind, int number, int slot) {
        if (kind == CONSTANT) {
            return number;
        }
        return kind == COLUMN ? cells[slot * COLUMNS + number] : parameters[number];
    }

    private static long oneValue(int kind, long x) {
        if (x == FAULTY) {
            return FAULTY;
        }
        if (kind == NOT) {
            return x == 0 ? 1 : 0;
        }
        return (int) -x;
    }

    private static long twoValue(int kind, long x, long y) {
        if (x == FAULTY) {
            return FAULTY;
        }
        if (kind == AND && x == 0) {
            return 0;
        }
        if (kind == OR && x != 0) {
            return 1;
        }
        if (y == FAULTY) {
            return FAULTY;
        }
        switch (kind) {
            case PLUS:
                return (int) (x + y);
            case MINUS:
                return (int) (x - y);
            case TIMES:
                return (int) (x * y);
            case DIVIDED:
                return y == 0 ? FAULTY : (int) (x / y);
            case LESS:
                return x < y ? 1 : 0;
            case EQUAL:
                return x == y ? 1 : 0;
            case LESSER:
                return x < y ? x : y;
            case GREATER:
                return x > y ? x : y;
            default:
                return y != 0 ? 1 : 0;
        }
    }

    private static long chosenValue(long c, long x, long y) {
        if (c == FAULTY) {
            return FAULTY;
        }
        return c != 0 ? x : y;
    }

    private static int slotOf(int table, int k) {
        return table * KEYS + k - LOWEST_KEY;
    }

    private int countRows(int table) {
        int number = 0;
        for (int slot = table * KEYS; slot < table * KEYS + KEYS; slot++) {
            if (there[slot]) {
                number++;
            }
        }
        return number;
    }

    private void copyTable(int from, int to) {
        for (int slot = 0; slot < KEYS; slot++) {
            copySlot(from * KEYS + slot, to * KEYS + slot);
        }
    }

    private void copySlot(int from, int to) {
        there[to] = there[from];
        for (int col = 0; col < COLUMNS; col++) {
            cells[to * COLUMNS + col] = cells[from * COLUMNS + col];
        }
    }

    private boolean isSameSlot(int left, int right) {
        if (!there[left] || !there[right]) {
            return there[left] == there[right];
        }
        for (int col = 0; col < COLUMNS; col++) {
            if (cells[left * COLUMNS + col] != cells[right * COLUMNS + col]) {
                return false;
            }
        }
        return true;
    }

    private boolean isFree(int table, int k) {
        if (!isKey(k)) {
            return false;
        }
        int slot = slotOf(table, k);
        return !there[slot];
    }

    private void putRow(int k, int a, int b, int c) {
        int slot = slotOf(NEXT, k);
        there[slot] = true;
        cells[slot * COLUMNS] = k;
        cells[slot * COLUMNS + 1] = a;
        cells[slot * COLUMNS + 2] = b;
        cells[slot * COLUMNS + 3] = c;
    }

    // All rows are looked at before a call acts on one: a fault of w for any refuses the whole.
    private int selectRows(int w) {
        int met = 0;
        for (int slot = 0; slot < KEYS; slot++) {
            meets[slot] = false;
            if (there[CURRENT * KEYS + slot]) {
                long worth = workOut(w, CURRENT * KEYS + slot);
                if (worth == FAULTY) {
                    return FAULT;
                }
                if (worth != 0) {
                    meets[slot] = true;
                    met++;
                }
            }
        }
        return met;
    }

    // For rows that do not meet w, e is not worked out: there it may be a fault.
    private int selectResults(int w, int e) {
        int met = selectRows(w);
        if (met == FAULT) {
            return FAULT;
        }
        for (int slot = 0; slot < KEYS; slot++) {
            if (meets[slot]) {
                long worth = workOut(e, CURRENT * KEYS + slot);
                if (worth == FAULTY) {
                    return FAULT;
                }
                results[slot] = (int) worth;
            }
        }
        return met;
    }

    private boolean isNewResult(int slot) {
        for (int earlier = 0; earlier < slot; earlier++) {
            if (meets[earlier] && results[earlier] == results[slot]) {
                return false;
            }
        }
        return true;
    }

    // Rows are put into an empty NEXT one by one, since they may take each other's keys. False for
    // a bad key: NEXT is then unfinished, and is not taken.
    private boolean buildUpdated(int col) {
        clearNext();
        for (int slot = 0; slot < KEYS; slot++) {
            if (there[CURRENT * KEYS + slot]) {
                boolean moves = meets[slot] && col == KEY_COLUMN;
                int k = moves ? results[slot] : slot + LOWEST_KEY;
                if (!placeInNext(slot, k)) {
                    return false;
                }
                if (meets[slot]) {
                    int target = slotOf(NEXT, k);
                    cells[target * COLUMNS + col] = results[slot];
                }
            }
        }
        return true;
    }

    // The further rows join the old ones, so that their keys are tested against old and new ones.
    // False for a bad key, as above.
    private boolean buildCopied() {
        copyTable(CURRENT, NEXT);
        for (int slot = 0; slot < KEYS; slot++) {
            if (meets[slot] && !placeInNext(slot, results[slot])) {
                return false;
            }
        }
        return true;
    }

    private void clearNext() {
        for (int slot = 0; slot < KEYS; slot++) {
            there[NEXT * KEYS + slot] = false;
        }
    }

    private boolean placeInNext(int slot, int k) {
        if (!isFree(NEXT, k)) {
            return false;
        }
        int target = slotOf(NEXT, k);
        copySlot(CURRENT * KEYS + slot, target);
        cells[target * COLUMNS] = k;
        return true;
    }

    // The conditions are the last tests of insert, update, copy and load, so they stand here once.
    private int takeNext(int answer) {
        if (uniqueOn && !isUnique(NEXT)) {
            return NOT_UNIQUE;
        }
        if (checkOn && !allMeet(NEXT, CHECK)) {
            return UNCHECKED;
        }
        copyTable(NEXT, CURRENT);
        return answer;
    }

    private boolean isUnique(int table) {
        int first = table * KEYS;
        for (int slot = first; slot < first + KEYS; slot++) {
            if (there[slot] && hasEarlierC(first, slot)) {
                return false;
            }
        }
        return true;
    }

    private boolean hasEarlierC(int first, int slot) {
        int c = cells[slot * COLUMNS + C_COLUMN];
        for (int earlier = first; earlier < slot; earlier++) {
            if (there[earlier] && cells[earlier * COLUMNS + C_COLUMN] == c) {
                return true;
            }
        }
        return false;
    }

    private boolean allMeet(int table, int term) {
        for (int slot = table * KEYS; slot < table * KEYS + KEYS; slot++) {
            if (there[slot]) {
                long worth = workOut(term, slot);
                if (worth == FAULTY || worth == 0) {
                    return false;
                }
            }
        }
        return true;
    }
}
