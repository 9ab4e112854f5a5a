import java.util.List;

/** Writes terms, operands before operators, as words: "key 5 <" is key < 5. */
final class Terms {
    private static final List<String> COLUMNS = List.of("key", "a", "b", "c");
    private static final List<String> PARAMETERS = List.of("p0", "p1", "p2");
    private static final List<String> ONES = List.of("neg", "not");
    private static final List<String> TWOS =
            List.of("+", "-", "*", "/", "<", "=", "min", "max", "and", "or");
    /** A term that is a fault for every row. */
    static final String FAULT = "1 0 /";

    private Terms() {
    }

    static int push(StatementTables t, String words) {
        int answer = 0;
        for (String word : words.split(" ")) {
            answer = pushWord(t, word);
        }
        return answer;
    }

    static int express(StatementTables t, int e, String words) {
        t.scrap();
        push(t, words);
        return t.express(e);
    }

    private static int pushWord(StatementTables t, String word) {
        if (COLUMNS.contains(word)) {
            return t.leaf(1, COLUMNS.indexOf(word));
        }
        if (PARAMETERS.contains(word)) {
            return t.leaf(2, PARAMETERS.indexOf(word));
        }
        if (ONES.contains(word)) {
            return t.one(ONES.indexOf(word));
        }
        if (TWOS.contains(word)) {
            return t.two(TWOS.indexOf(word));
        }
        return word.equals("choose") ? t.choose() : t.leaf(0, Integer.parseInt(word));
    }
}
