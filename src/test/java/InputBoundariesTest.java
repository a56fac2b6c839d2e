import java.math.BigInteger;

/**
 * The sentences about the buffer that name a boundary ('Input text' and promises 2 to 7), each with
 * a test of its own: the last value that is taken and the first that is refused.
 */
public final class InputBoundariesTest {
    private static final String NONTERMINALS = "ABCDEFGHIJKLMNOP";
    private static final String SYMBOLS = NONTERMINALS + "abcdefgh";
    private static final String LONG_SIDE = "aaaaaaaa";

    private InputBoundariesTest() {
    }

    public static void main(String[] args) {
        codesThatAreTaken();
        codesThatAreRefused();
        lengthOfTheBuffer();
        badCharacterComesBeforeBufferFull();
        clearInputReturnsTheLength();
        everyCharacterAtEveryPlace();
        firstErrorWithoutAnError();
        firstErrorIsTheFirst();
        atLeastOneColon();
        lastCharacter();
        emptyRightSides();
        eightSymbols();
        writtenTwice();
        fullBuffer();
        loadReplacesAndClears();
        loadThatIsRefused();
        lettersOfAWord();
        lengthOfAWord();
        wordFromA();
        bufferIsKept();
        treesOfTheEmptyWord();
        treesOfAWordThatIsNone();
        treesWithAnEmptyProduction();
        treesWithACircleOfUnits();
        treesWithChainsOfUnits();
        invalidInputComesBeforeNotAllowed();
        treesThatOverflow();
        Check.finish();
    }

    // 'BAD_CHARACTER if code is not 32 to 126'
    private static void codesThatAreTaken() {
        GrammarReshaper tool = new GrammarReshaper();
        for (int code = 32; code <= 126; code++) {
            Check.due("append(" + code + ")", tool.append(code), 1);
            Check.due("clearInput after " + code, tool.clearInput(), 1);
        }
    }

    // 'BAD_CHARACTER if code is not 32 to 126'
    private static void codesThatAreRefused() {
        int[] far = {Integer.MIN_VALUE, Integer.MIN_VALUE + 65, -65, 256 + 65, 65536 + 65, Integer.MAX_VALUE};
        GrammarReshaper tool = Check.written("A:");
        for (int code : far) {
            Check.refused("append(" + code + ")", tool, () -> tool.append(code), GrammarReshaper.BAD_CHARACTER);
        }
        for (int i = 0; i < 32; i++) {
            int low = i;
            int high = 127 + i;
            Check.refused("append(" + low + ")", tool, () -> tool.append(low), GrammarReshaper.BAD_CHARACTER);
            Check.refused("append(" + high + ")", tool, () -> tool.append(high), GrammarReshaper.BAD_CHARACTER);
        }
        Check.due("append after refused ones", tool.append(32), 3);
    }

    // 'The input buffer has at most 60 characters'; 'BUFFER_FULL if the buffer has 60 characters'
    private static void lengthOfTheBuffer() {
        GrammarReshaper tool = new GrammarReshaper();
        for (int length = 1; length <= 60; length++) {
            Check.due("append number " + length, tool.append('a' + length % 8), length);
        }
        Check.refused("append number 61", tool, () -> tool.append('a'), GrammarReshaper.BUFFER_FULL);
        Check.refused("append number 62", tool, () -> tool.append(';'), GrammarReshaper.BUFFER_FULL);
        Check.due("length of the full buffer", tool.clearInput(), 60);
        Check.due("append after the full one is cleared", tool.append('a'), 1);
    }

    // 'If several errors apply, the one that is listed first is returned'
    private static void badCharacterComesBeforeBufferFull() {
        GrammarReshaper tool = Check.written("a".repeat(60));
        Check.refused("append(31) when full", tool, () -> tool.append(31), GrammarReshaper.BAD_CHARACTER);
        Check.refused("append(127) when full", tool, () -> tool.append(127), GrammarReshaper.BAD_CHARACTER);
        Check.refused("append(32) when full", tool, () -> tool.append(32), GrammarReshaper.BUFFER_FULL);
        Check.refused("append(126) when full", tool, () -> tool.append(126), GrammarReshaper.BUFFER_FULL);
    }

    // 'Returns the length that the buffer had'
    private static void clearInputReturnsTheLength() {
        GrammarReshaper tool = Check.loaded("A:a");
        Check.due("clearInput of an empty buffer", tool.clearInput(), 0);
        for (int length = 0; length <= 60; length++) {
            Check.write(tool, "|".repeat(length));
            Check.due("clearInput", tool.clearInput(), length);
            Check.due("clearInput again", tool.clearInput(), 0);
        }
        Check.due("grammar after clearInput", Check.grammarOf(tool), "A:a");
    }

    // 'a group begins with a nonterminal; then comes a colon; after that, a symbol, a '|' or a
    // semicolon may come at any place, but no symbol may come after the 8th symbol of a right side'
    private static void everyCharacterAtEveryPlace() {
        String[] beginnings = {"", "A:;", "P:a|;", "A:" + LONG_SIDE + ";"};
        String[] named = {"A", "P", "A:;B", "A:;A"};
        String[] open = {"A:", "P:", "A:a", "A:B", "A:|", "A:||", "A:aaaaaaa", "A:AAAAAAA", "A:aaaaaaa|aaaaaaa",
            "A:" + LONG_SIDE + "|", "A:" + LONG_SIDE + ";B:", "A:a;B:b"};
        String[] full = {"A:" + LONG_SIDE, "A:ABCDEFGH", "A:|" + LONG_SIDE, "A:" + LONG_SIDE + "|" + LONG_SIDE, "A:;B:" + LONG_SIDE};
        dueAllowed(beginnings, NONTERMINALS);
        dueAllowed(named, ":");
        dueAllowed(open, SYMBOLS + "|;");
        dueAllowed(full, "|;");
    }

    private static void dueAllowed(String[] prefixes, String allowed) {
        for (String prefix : prefixes) {
            for (char code = 32; code <= 126; code++) {
                int due = prefix.length() + (allowed.indexOf(code) >= 0 ? 1 : 0);
                Check.due("firstError of " + prefix + code, Check.written(prefix + code).firstError(), due);
            }
        }
    }

    // 'the length of the buffer if there is none'
    private static void firstErrorWithoutAnError() {
        String[] texts = {"", "A", "A:", "A:;", "A:;B", "A:a|", "A:" + "|".repeat(57), "A:" + "|".repeat(58), "A:" + "|".repeat(57) + ";",
            "A:" + "|".repeat(56) + ";P"};
        for (String text : texts) {
            GrammarReshaper tool = Check.written(text);
            String before = Check.stateOf(tool);
            Check.due("firstError of " + text, tool.firstError(), text.length());
            Check.due("state after firstError", Check.stateOf(tool), before);
        }
    }

    // 'the index of the first character that is a syntax error'
    private static void firstErrorIsTheFirst() {
        Check.due("at index 0", Check.written("a:a").firstError(), 0);
        Check.due("the first of three", Check.written("A::a:a;;").firstError(), 2);
        Check.due("behind a full right side", Check.written("A:" + LONG_SIDE + "aa").firstError(), 10);
        Check.due("at index 58", Check.written("A:" + "|".repeat(56) + "::").firstError(), 58);
        Check.due("at index 59", Check.written("A:" + "|".repeat(57) + ":").firstError(), 59);
        Check.due("of a word", Check.written("abc").firstError(), 0);
    }

    private static void dueLoad(String text, int due, String grammar) {
        GrammarReshaper tool = Check.written(text);
        Check.due("load of " + text, tool.load(), due);
        Check.due("grammar after load of " + text, Check.grammarOf(tool), grammar);
        Check.due("buffer after load of " + text, tool.clearInput(), due < 0 ? text.length() : 0);
    }

    // 'a grammar if it contains at least one colon'
    private static void atLeastOneColon() {
        dueLoad("", -4, "");
        dueLoad("A", -4, "");
        dueLoad("P", -4, "");
        dueLoad("A:", 1, "A:");
        dueLoad("P:", 1, "P:");
    }

    // 'and its last character is not a semicolon and not the nonterminal at the beginning of a group'
    private static void lastCharacter() {
        dueLoad("A:;", -4, "");
        dueLoad("A:a;", -4, "");
        dueLoad("A:" + LONG_SIDE + ";", -4, "");
        dueLoad("A:a;B:b;", -4, "");
        dueLoad("A:;B", -4, "");
        dueLoad("A:a;A", -4, "");
        dueLoad("A:a;B:b;P", -4, "");
        dueLoad("A:B", 1, "A:B");
        dueLoad("A:a|B", 2, "A:B A:a");
        dueLoad("A:a;B:P", 2, "A:a B:P");
    }

    // 'one or more right sides separated by '|'; a right side .. may be empty'
    private static void emptyRightSides() {
        dueLoad("A:|", 1, "A:");
        dueLoad("A:a|", 2, "A: A:a");
        dueLoad("A:|a", 2, "A: A:a");
        dueLoad("A:a||b", 3, "A: A:a A:b");
        dueLoad("A:;B:", 2, "A: B:");
        dueLoad("A:aAb|;B:c", 3, "A: A:aAb B:c");
    }

    // 'no symbol may come after the 8th symbol of a right side'
    private static void eightSymbols() {
        dueLoad("A:abcdefgh", 1, "A:abcdefgh");
        dueLoad("A:abcdefgha", -4, "");
        dueLoad("A:IJKLMNOP", 1, "A:IJKLMNOP");
        dueLoad("A:IJKLMNOPA", -4, "");
        dueLoad("A:abcdefgh|hgfedcba;B:PPPPPPPP", 3, "A:abcdefgh A:hgfedcba B:PPPPPPPP");
        dueLoad("A:abcdefgh|hgfedcba;B:PPPPPPPPa", -4, "");
    }

    // 'Several groups may have the same nonterminal; a production that is written twice counts once'
    private static void writtenTwice() {
        dueLoad("A:a|a", 1, "A:a");
        dueLoad("A:a;A:a", 1, "A:a");
        dueLoad("A:b;B:a;A:a", 3, "A:a A:b B:a");
        dueLoad("A:|;A:|", 1, "A:");
        dueLoad("A:abcdefgh|abcdefgh|abcdefg", 2, "A:abcdefg A:abcdefgh");
    }

    // 'The input buffer has at most 60 characters': a grammar may take all of them
    private static void fullBuffer() {
        dueLoad("A:" + "|".repeat(57), 1, "A:");
        dueLoad("A:" + "|".repeat(58), 1, "A:");
        dueLoad("A:" + "|".repeat(57) + "h", 2, "A: A:h");
        dueLoad("A:" + "|".repeat(57) + ";", -4, "");
        dueLoad("A:" + "|".repeat(57) + ":", -4, "");
        dueLoad("A:" + "|".repeat(56) + ";B", -4, "");
        dueLoad("A:" + "|".repeat(55) + ";B:", 2, "A: B:");
        // A '|' and a letter is the least that a production takes, so no text has more of them.
        GrammarReshaper tool = Check.written("A:|A|B|C|D|E|F|G|H|I|J|K|L|M|N|O|P|a|b|c|d|e|f|g|h;B:|a|b|c");
        Check.due("load of many productions", tool.load(), 29);
        Check.due("first of many", tool.symbol(0, 1), -1);
        Check.due("last of A", tool.symbol(24, 1), 'h');
        Check.due("last of many", tool.symbol(28, 1), 'c');
        Check.due("behind the last of many", tool.symbol(29, 0), -5);
    }

    // 'Replaces the grammar by the one in the buffer, and clears the buffer'
    private static void loadReplacesAndClears() {
        GrammarReshaper tool = Check.sixty();
        Check.due("save before load", tool.save(), 60);
        Check.write(tool, "P:");
        Check.due("load over 60 productions", tool.load(), 1);
        Check.due("grammar of one production", Check.grammarOf(tool), "P:");
        Check.due("buffer after load", tool.clearInput(), 0);
        Check.due("the saved one stays", tool.restore(), 60);
    }

    // 'INVALID_INPUT if the buffer is not a grammar'; 'A method that returns an error code changes nothing'
    private static void loadThatIsRefused() {
        String[] texts = {"", "A", "A:;", "A:;B", "a", ":", "A:aaaaaaaaa", "A:a;b:b", "A:a b", "A:" + "|".repeat(57) + ";"};
        for (String text : texts) {
            GrammarReshaper tool = Check.loaded("A:b|");
            tool.save();
            Check.write(tool, text);
            Check.refused("load of " + text, tool, tool::load, GrammarReshaper.INVALID_INPUT);
        }
    }

    // 'INVALID_INPUT if the buffer is not a word'; 'terminals are the letters a to h'
    private static void lettersOfAWord() {
        GrammarReshaper tool = Check.loaded("A:AA|a|b|c|d|e|f|g|h");
        for (char code = 32; code <= 126; code++) {
            boolean isTerminal = code >= 'a' && code <= 'h';
            for (String text : new String[] {"" + code, code + "aaaaaaaaa", "aaaaaaaaa" + code, "aaaa" + code + "hhhh"}) {
                Check.write(tool, text);
                Check.due("accepts " + text, tool.accepts(), isTerminal ? 1 : -4);
                Check.due("countTrees of " + text, Math.min(tool.countTrees(), 1), isTerminal ? 1 : -4);
            }
        }
    }

    // 'A word is written as 0 to 10 terminals'
    private static void lengthOfAWord() {
        GrammarReshaper tool = Check.loaded("A:aA|");
        for (int length = 0; length <= 60; length++) {
            Check.write(tool, "a".repeat(length));
            Check.due("accepts a word of " + length, tool.accepts(), length <= 10 ? 1 : -4);
            Check.due("countTrees of a word of " + length, tool.countTrees(), length <= 10 ? -8 : -4);
        }
        Check.write(tool, "aaaaaaaaab");
        Check.due("the 10th letter counts", tool.accepts(), 0);
        Check.write(tool, "baaaaaaaaa");
        Check.due("the first letter counts", tool.accepts(), 0);
        GrammarReshaper refusing = Check.loaded("A:aA|");
        Check.write(refusing, "aaaaaaaaaaa");
        Check.refused("accepts of 11", refusing, refusing::accepts, GrammarReshaper.INVALID_INPUT);
    }

    private static void dueAccepts(GrammarReshaper tool, String word, int due) {
        Check.write(tool, word);
        Check.due("accepts '" + word + "' by " + Check.grammarOf(tool), tool.accepts(), due);
    }

    // 'can be derived from A'
    private static void wordFromA() {
        dueAccepts(new GrammarReshaper(), "", 0);
        dueAccepts(new GrammarReshaper(), "a", 0);
        dueAccepts(Check.loaded("B:|a"), "", 0);
        dueAccepts(Check.loaded("B:|a"), "a", 0);
        dueAccepts(Check.loaded("A:"), "", 1);
        dueAccepts(Check.loaded("A:"), "a", 0);
        dueAccepts(Check.loaded("A:abcdefgh"), "abcdefgh", 1);
        dueAccepts(Check.loaded("A:abcdefgh"), "abcdefg", 0);
        dueAccepts(Check.loaded("A:abcdefgh"), "abcdefgha", 0);
        dueAccepts(Check.loaded("A:BBBBBBBB;B:h|"), "hhhhhhhh", 1);
        dueAccepts(Check.loaded("A:BBBBBBBB;B:h|"), "hhhhhhhhh", 0);
        dueAccepts(Check.loaded("A:BBBBBBBB;B:h|"), "", 1);
        dueAccepts(Check.loaded("A:PPPPPPPO;P:a;O:aaa"), "aaaaaaaaaa", 1);
        dueAccepts(Check.sixty(), "ad", 1);
        dueAccepts(Check.sixty(), "ae", 0);
        dueAccepts(Check.loaded("A:B;B:C;C:D;D:E;E:F;F:G;G:H;H:I;I:J;J:K;K:L;L:M;M:N;N:O;O:"), "", 1);
        dueAccepts(Check.loaded("A:B;B:A|A"), "", 0);
        // The part of the word that a symbol takes may have several ends.
        dueAccepts(Check.loaded("A:BC;B:a|ab;C:b|c"), "ab", 1);
        dueAccepts(Check.loaded("A:BC;B:a|ab;C:b|c"), "abc", 1);
        dueAccepts(Check.loaded("A:BaC;B:|a;C:a"), "aa", 1);
        dueAccepts(Check.loaded("A:BaC;B:|a;C:a"), "aaa", 1);
        dueAccepts(Check.loaded("A:BaC;B:|a;C:a"), "aaaa", 0);
    }

    // 'The buffer is kept'
    private static void bufferIsKept() {
        for (String word : new String[] {"", "a", "hhhhhhhhhh"}) {
            GrammarReshaper tool = Check.loaded("A:h|AA");
            Check.write(tool, word);
            String before = Check.stateOf(tool);
            tool.accepts();
            tool.countTrees();
            Check.due("state after parsing " + word, Check.stateOf(tool), before);
            Check.due("buffer after parsing " + word, tool.clearInput(), word.length());
        }
    }

    private static void dueTrees(String grammar, String word, long due) {
        GrammarReshaper tool = Check.loaded(grammar);
        Check.write(tool, word);
        if (due < 0 && due > -10) {
            Check.refused("countTrees of " + word + " by " + grammar, tool, tool::countTrees, due);
        } else {
            Check.due("countTrees of " + word + " by " + grammar, tool.countTrees(), due);
        }
    }

    // '(0 for the empty word)'
    private static void treesOfTheEmptyWord() {
        Check.due("no productions", new GrammarReshaper().countTrees(), 0);
        dueTrees("A:a", "", 0);
        dueTrees("A:B|AA|a", "", 0);
        dueTrees("A:|a", "", -8);
    }

    // 'INVALID_INPUT if the buffer is not a word'
    private static void treesOfAWordThatIsNone() {
        dueTrees("A:a|AA", "aaaaaaaaaa", 4862);
        dueTrees("A:a|AA", "aaaaaaaaaaa", -4);
        dueTrees("A:a|AA", "i", -4);
        dueTrees("A:a|AA", "A", -4);
        dueTrees("A:a|AA", " ", -4);
    }

    // 'NOT_ALLOWED if the grammar has an empty production'
    private static void treesWithAnEmptyProduction() {
        dueTrees("A:", "", -8);
        dueTrees("A:a;P:", "a", -8);
        dueTrees("A:a;P:h", "a", 1);
    }

    // 'or if some nonterminal can be reached from itself by one or more unit productions'
    private static void treesWithACircleOfUnits() {
        dueTrees("A:A", "a", -8);
        dueTrees("A:a;P:P", "a", -8);
        dueTrees("A:a;O:P;P:O", "a", -8);
        dueTrees("A:a|B;B:C;C:A", "", -8);
        dueTrees("A:B;B:C;C:D;D:E;E:F;F:G;G:H;H:I;I:J;J:K;K:L;L:M;M:N;N:O;O:A", "a", -8);
        dueTrees("P:O;O:N;N:M;M:L;L:K;K:J;J:I;I:H;H:G;G:F;F:E;E:D;D:C;C:B;B:P", "a", -8);
        dueTrees("A:AA|a;B:BB;C:Cc", "a", 1);
    }

    // 'from itself by one or more unit productions': a chain without a circle is allowed
    private static void treesWithChainsOfUnits() {
        dueTrees("A:B;B:C;C:D;D:E;E:F;F:G;G:H;H:I;I:J;J:K;K:L;L:M;M:N;N:O;O:a", "a", 1);
        dueTrees("A:P;P:O;O:N;N:M;M:L;L:K;K:J;J:I;I:H;H:G;G:F;F:E;E:D;D:C;C:a", "a", 1);
        dueTrees("A:B|C;B:D;C:D;D:a", "a", 2);
        dueTrees("A:P|O;P:O;O:a|aa", "aa", 2);
    }

    // 'If several errors apply, the one that is listed first is returned'
    private static void invalidInputComesBeforeNotAllowed() {
        dueTrees("A:", "A", -4);
        dueTrees("A:A", "aaaaaaaaaaa", -4);
        dueTrees("A:A|", "i", -4);
    }

    // 'computed in long arithmetic with overflow': 'no other result is [negative], except .. the
    // result of countTrees if the number is too great for a long'
    private static void treesThatOverflow() {
        // Each of the 4862 shapes with ten ends has one of the chains of units at each end.
        String chains = ";B:C|D;C:D|E;D:E|F;E:F|G;F:G|H;G:H|I;H:I|a;I:a";
        dueTrees("A:AA|C|E|G|I" + chains, "a", 33);
        dueTrees("A:AA|C|E|G|I" + chains, "aaaaaaaaaa", 7446537026355751038L);
        dueTrees("A:AA|B" + chains, "a", 34);
        dueTrees("A:AA|B" + chains, "aaaaaaaaaa", -8409739433470920704L);
        dueTrees("A:AA|B|C" + chains, "aaaaaaaaaa", shapes(55));
        dueTrees("A:AA|B|C|E|I" + chains, "a", 64);
        dueTrees("A:AA|B|C|E|I" + chains, "aaaaaaaaaa", -(1L << 61));
        dueTrees("A:AA|B|C|D" + chains, "aaaaaaaaaa", shapes(68));
        Check.due("33 chains fit", shapes(33), 7446537026355751038L);
        Check.due("34 chains do not", shapes(34), -8409739433470920704L);
    }

    private static long shapes(int chains) {
        return BigInteger.valueOf(chains).pow(10).multiply(BigInteger.valueOf(4862)).longValue();
    }
}
