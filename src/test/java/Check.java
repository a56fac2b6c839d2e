import java.util.function.LongSupplier;

/** What the tests share: comparing answers, writing into the buffer, and reading a grammar out. */
final class Check {
    /** Five nonterminals with units to B, twelve right sides of B: 60 productions without units. */
    private static final String SIXTY = "A:B;C:B;D:B;E:B;B:a|b|c|d|e|f|g|h|aa|ab|ac|ad";

    private static int wrong = 0;
    private static int checked = 0;

    private Check() {
    }

    static void due(String what, long got, long want) {
        checked++;
        if (got != want) {
            wrong++;
            System.out.println(what + " answered " + got + ", due is " + want);
        }
    }

    static void due(String what, String got, String want) {
        checked++;
        if (!got.equals(want)) {
            wrong++;
            System.out.println(what + " is " + got + ", due is " + want);
        }
    }

    static void finish() {
        System.out.println(checked + " answers, " + wrong + " of them wrong");
        if (wrong != 0) {
            System.exit(1);
        }
    }

    static GrammarReshaper written(String text) {
        GrammarReshaper tool = new GrammarReshaper();
        write(tool, text);
        return tool;
    }

    /** Puts the text into the buffer instead of what was there. */
    static void write(GrammarReshaper tool, String text) {
        tool.clearInput();
        for (int i = 0; i < text.length(); i++) {
            due("append in " + text, tool.append(text.charAt(i)), i + 1);
        }
    }

    static GrammarReshaper loaded(String text) {
        GrammarReshaper tool = written(text);
        if (tool.load() < 0) {
            due("load of " + text, -1, 0);
        }
        return tool;
    }

    /** The grammar as a text, production by production: "A:aAb A: B:c". */
    static String grammarOf(GrammarReshaper tool) {
        StringBuilder text = new StringBuilder();
        for (int i = 0; i < tool.productionCount(); i++) {
            text.append(i == 0 ? "" : " ").append((char) tool.symbol(i, 0)).append(':');
            for (int k = 1; tool.symbol(i, k) >= 0; k++) {
                text.append((char) tool.symbol(i, k));
            }
        }
        return text.toString();
    }

    /** A grammar with 60 productions, which no text in the buffer can have. */
    static GrammarReshaper sixty() {
        return withoutUnits(SIXTY, 60);
    }

    /** What removeUnits makes of the text: a way to grammars that are larger than any text. */
    static GrammarReshaper withoutUnits(String text, int productions) {
        GrammarReshaper tool = loaded(text);
        due("removeUnits of " + text, tool.removeUnits(), productions);
        return tool;
    }

    /** The call answers the error code, twice, and changes neither grammar nor buffer nor saved one. */
    static void refused(String what, GrammarReshaper tool, LongSupplier call, long error) {
        String before = stateOf(tool);
        due(what, call.getAsLong(), error);
        due(what + ": state after it", stateOf(tool), before);
        due(what + ", again", call.getAsLong(), error);
    }

    // The digest has the characters of the buffer; of the saved grammar only the words can be seen.
    static String stateOf(GrammarReshaper tool) {
        StringBuilder state = new StringBuilder(grammarOf(tool)).append(" digest ").append(tool.digest());
        for (int length = 0; length <= 2; length++) {
            state.append(' ').append(tool.countDifferences(length));
        }
        return state.toString();
    }

    static int set(String letters) {
        int set = 0;
        for (char c : letters.toCharArray()) {
            set |= c == '$' ? 256 : 1 << (c >= 'a' ? c - 'a' : c - 'A');
        }
        return set;
    }
}
