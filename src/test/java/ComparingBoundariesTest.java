/**
 * The sentences about saving, comparing and the digest that name a boundary (promises 27 to 31),
 * each with a test of its own.
 */
public final class ComparingBoundariesTest {
    private static final int[] NO_LENGTHS = {-1, 3, 4, 8, 32, -2, Integer.MIN_VALUE, Integer.MAX_VALUE};
    private static final String ALL_TERMINALS = "a|b|c|d|e|f|g|h";

    private ComparingBoundariesTest() {
    }

    public static void main(String[] args) {
        saveReturnsTheNumber();
        saveReplacesTheOneBefore();
        restoreOfNothing();
        restoreKeepsTheSavedOne();
        savedOneIsApart();
        lengthsOfWords();
        lengthsOutOfRange();
        numbersOfWords();
        wordsFromA();
        differencesOfNothing();
        differencesOutOfRange();
        outOfRangeComesBeforeNothingSaved();
        numbersOfDifferences();
        exactlyOneOfTheTwo();
        digestOfANewObject();
        digestOfTheSavedNumber();
        digestOfTheBuffer();
        digestOfTheOrder();
        digestOfFullStates();
        digestChangesNothing();
        fiveHundredAndTwelveCalls();
        Check.finish();
    }

    // 'Saves the grammar .. Returns the number of productions'
    private static void saveReturnsTheNumber() {
        Check.due("save of nothing", new GrammarReshaper().save(), 0);
        Check.due("save of one", Check.loaded("A:").save(), 1);
        GrammarReshaper full = Check.sixty();
        String grammar = Check.grammarOf(full);
        Check.due("save of 60", full.save(), 60);
        Check.due("grammar after save", Check.grammarOf(full), grammar);
        Check.write(full, "P:");
        full.load();
        Check.due("restore of 60", full.restore(), 60);
        Check.due("the 60 restored", Check.grammarOf(full), grammar);
    }

    // 'It replaces the grammar that was saved before'
    private static void saveReplacesTheOneBefore() {
        GrammarReshaper tool = Check.sixty();
        tool.save();
        Check.write(tool, "P:h");
        tool.load();
        Check.due("save of one over 60", tool.save(), 1);
        Check.write(tool, "A:a");
        tool.load();
        Check.due("restore of the later one", tool.restore(), 1);
        Check.due("the later one", Check.grammarOf(tool), "P:h");
        tool.removeUseless();
        Check.due("save of nothing over one", tool.save(), 0);
        Check.write(tool, "A:a");
        tool.load();
        Check.due("restore of nothing that was saved", tool.restore(), 0);
        Check.due("productions after it", tool.productionCount(), 0);
    }

    // 'NOTHING_SAVED if no grammar has been saved'
    private static void restoreOfNothing() {
        GrammarReshaper fresh = new GrammarReshaper();
        Check.refused("restore of a new object", fresh, fresh::restore, GrammarReshaper.NOTHING_SAVED);
        GrammarReshaper tool = Check.sixty();
        Check.write(tool, "abc");
        Check.refused("restore without save", tool, tool::restore, GrammarReshaper.NOTHING_SAVED);
        tool.save();
        Check.due("restore after save", tool.restore(), 60);
    }

    // 'Replaces the grammar by the saved one, which is kept'
    private static void restoreKeepsTheSavedOne() {
        GrammarReshaper tool = Check.loaded("A:Ab|a");
        tool.save();
        Check.write(tool, "x y");
        for (int i = 0; i < 3; i++) {
            Check.due("removeLeftRecursion", tool.removeLeftRecursion(), 4);
            Check.due("restore", tool.restore(), 2);
            Check.due("restored", Check.grammarOf(tool), "A:Ab A:a");
        }
        Check.due("buffer after restore", tool.clearInput(), 3);
    }

    // 'the saved one, which is kept': no transformation of the grammar reaches it
    private static void savedOneIsApart() {
        GrammarReshaper tool = Check.loaded("A:a|B;B:|b");
        tool.save();
        tool.removeUseless();
        tool.removeEmpty();
        tool.removeUnits();
        tool.leftFactor();
        tool.toChomsky();
        tool.toGreibach();
        Check.due("what has become of the grammar", Check.grammarOf(tool), "A:a A:b B:b");
        Check.due("restore", tool.restore(), 4);
        Check.due("the saved one", Check.grammarOf(tool), "A:B A:a B: B:b");
    }

    // 'length: 0 to 2'
    private static void lengthsOfWords() {
        GrammarReshaper tool = Check.loaded("A:|a|b|aa|bb|cc|aaa|bbb");
        Check.due("countWords(0)", tool.countWords(0), 1);
        Check.due("countWords(1)", tool.countWords(1), 2);
        Check.due("countWords(2)", tool.countWords(2), 3);
    }

    // 'OUT_OF_RANGE if length is out of range'
    private static void lengthsOutOfRange() {
        GrammarReshaper tool = Check.loaded("A:|a|aa|aaa");
        for (int length : NO_LENGTHS) {
            Check.refused("countWords(" + length + ")", tool, () -> tool.countWords(length), GrammarReshaper.OUT_OF_RANGE);
        }
    }

    private static void dueWords(String text, int none, int ones, int twos) {
        GrammarReshaper tool = Check.loaded(text);
        Check.due("countWords(0) of " + text, tool.countWords(0), none);
        Check.due("countWords(1) of " + text, tool.countWords(1), ones);
        Check.due("countWords(2) of " + text, tool.countWords(2), twos);
    }

    // 'Counts the words of a length': from none to all of them
    private static void numbersOfWords() {
        dueWords("A:aaa", 0, 0, 0);
        dueWords("A:", 1, 0, 0);
        dueWords("A:" + ALL_TERMINALS, 0, 8, 0);
        dueWords("A:BB;B:" + ALL_TERMINALS, 0, 0, 64);
        dueWords("A:BBBBBBBB;B:|" + ALL_TERMINALS, 1, 8, 64);
        dueWords("A:hh", 0, 0, 1);
        dueWords("A:aa|ah|ha|hh", 0, 0, 4);
        dueWords("A:AA|a|h", 0, 2, 4);
        dueWords("A:BBBBBBaa;B:", 0, 0, 1);
        dueWords("A:BBBBBBBa;B:|b", 0, 1, 1);
        dueWords("A:BCDEFGHh;B:;C:;D:;E:;F:;G:;H:|h", 0, 1, 1);
    }

    // 'that can be derived from A'
    private static void wordsFromA() {
        dueWords("B:|a|aa", 0, 0, 0);
        dueWords("A:P;P:O;O:N;N:M;M:L;L:K;K:J;J:I;I:H;H:G;G:F;F:E;E:D;D:C;C:", 1, 0, 0);
        dueWords("A:B;B:C;C:D;D:E;E:F;F:G;G:H;H:I;I:J;J:K;K:L;L:M;M:N;N:O;O:h", 0, 1, 0);
        dueWords("A:aB", 0, 0, 0);
        dueWords("A:P;P:hh", 0, 0, 1);
        dueWords("A:hhP;P:", 0, 0, 1);
        dueWords("A:hP;P:", 0, 1, 0);
        dueWords("A:Ph;P:", 0, 1, 0);
        dueWords("A:Phh;P:", 0, 0, 1);
        dueWords("A:|aA", 1, 1, 1);
        Check.due("words of 60 productions", Check.sixty().countWords(1), 8);
        Check.due("longer words of 60 productions", Check.sixty().countWords(2), 4);
    }

    // 'NOTHING_SAVED if no grammar has been saved'
    private static void differencesOfNothing() {
        for (int i = 0; i <= 2; i++) {
            int length = i;
            GrammarReshaper tool = Check.loaded("A:|a|aa");
            Check.refused("countDifferences(" + length + ") without save", tool, () -> tool.countDifferences(length),
                GrammarReshaper.NOTHING_SAVED);
            tool.save();
            Check.due("countDifferences(" + length + ")", tool.countDifferences(length), 0);
        }
    }

    // 'OUT_OF_RANGE if length is out of range'
    private static void differencesOutOfRange() {
        GrammarReshaper tool = Check.loaded("A:|a|aa|aaa");
        tool.save();
        for (int length : NO_LENGTHS) {
            Check.refused("countDifferences(" + length + ")", tool, () -> tool.countDifferences(length), GrammarReshaper.OUT_OF_RANGE);
        }
    }

    // 'If several errors apply, the one that is listed first is returned'
    private static void outOfRangeComesBeforeNothingSaved() {
        GrammarReshaper tool = Check.loaded("A:|a|aa|aaa");
        for (int length : NO_LENGTHS) {
            Check.refused("countDifferences(" + length + ") without save", tool, () -> tool.countDifferences(length),
                GrammarReshaper.OUT_OF_RANGE);
        }
    }

    private static void dueDifferences(String saved, String current, int none, int ones, int twos) {
        GrammarReshaper tool = Check.loaded(saved);
        tool.save();
        Check.write(tool, current);
        tool.load();
        String what = " of " + saved + " and " + current;
        Check.due("countDifferences(0)" + what, tool.countDifferences(0), none);
        Check.due("countDifferences(1)" + what, tool.countDifferences(1), ones);
        Check.due("countDifferences(2)" + what, tool.countDifferences(2), twos);
        Check.due("countWords(1) after countDifferences", tool.countWords(1), Check.loaded(current).countWords(1));
    }

    // 'Counts the words of a length .. in exactly one of the two grammars': from none to all of them
    private static void numbersOfDifferences() {
        dueDifferences("A:BB;B:|" + ALL_TERMINALS, "P:", 1, 8, 64);
        dueDifferences("P:", "A:BB;B:|" + ALL_TERMINALS, 1, 8, 64);
        dueDifferences("A:BB;B:|" + ALL_TERMINALS, "A:BC;B:|" + ALL_TERMINALS + ";C:|" + ALL_TERMINALS, 0, 0, 0);
        dueDifferences("A:hh", "A:h", 0, 1, 1);
        dueDifferences("A:aaa", "A:bbb", 0, 0, 0);
    }

    // 'in exactly one of the two grammars, the current one and the saved one'
    private static void exactlyOneOfTheTwo() {
        dueDifferences("A:a|b", "A:b|c", 0, 2, 0);
        dueDifferences("A:aa|ab", "A:ab|ba", 0, 0, 2);
        dueDifferences("A:|a", "A:|a", 0, 0, 0);
        dueDifferences("A:|a", "A:a", 1, 0, 0);
        GrammarReshaper empty = new GrammarReshaper();
        empty.save();
        Check.due("a saved one without productions", empty.countDifferences(0), 0);
    }

    private static long hash(long start, long... values) {
        long hash = start;
        for (long value : values) {
            hash = 31 * hash + value;
        }
        return hash;
    }

    /** The digest as the document says it, from what the other calls answer. */
    private static long digestOf(GrammarReshaper tool, long saved, String buffer) {
        long hash = hash(1811, tool.productionCount());
        for (int i = 0; i < tool.productionCount(); i++) {
            int length = 0;
            while (tool.symbol(i, length + 1) != GrammarReshaper.NONE) {
                length++;
            }
            hash = hash(hash, length);
            for (int k = 0; k <= length; k++) {
                hash = hash(hash, tool.symbol(i, k));
            }
        }
        hash = hash(hash, tool.nullableSet(), tool.productiveSet(), tool.reachableSet(), tool.leftRecursiveSet());
        hash = hash(hash, tool.firstSet(0), tool.followSet(0), tool.firstSet(1), tool.followSet(1));
        hash = hash(hash, tool.isLl1(), tool.isChomsky(), tool.isGreibach());
        hash = hash(hash, tool.countWords(0), tool.countWords(1), tool.countWords(2), saved, buffer.length());
        for (char code : buffer.toCharArray()) {
            hash = hash(hash, code);
        }
        return hash;
    }

    // 'The hash starts as 1811'
    private static void digestOfANewObject() {
        long due = hash(1811, 0, 0, 0, 1, 0, 0, 256, 0, 0, 1, 1, 1, 0, 0, 0, -9, 0);
        Check.due("digest of a new object", new GrammarReshaper().digest(), due);
    }

    // 'the number of productions of the saved grammar, or NOTHING_SAVED'
    private static void digestOfTheSavedNumber() {
        GrammarReshaper tool = new GrammarReshaper();
        Check.due("nothing saved", tool.digest(), digestOf(tool, -9, ""));
        tool.save();
        Check.due("no productions saved", tool.digest(), digestOf(tool, 0, ""));
        GrammarReshaper full = Check.sixty();
        full.save();
        Check.write(full, "A:a");
        full.load();
        Check.due("60 productions saved", full.digest(), digestOf(full, 60, ""));
    }

    // 'the length of the input buffer and each of its character codes'
    private static void digestOfTheBuffer() {
        GrammarReshaper tool = Check.loaded("A:aB|;B:b");
        for (String text : new String[] {"", " ", "~", "~ ", " ~", "A:", "a".repeat(59), "|".repeat(60), "~".repeat(59) + "!"}) {
            Check.write(tool, text);
            Check.due("digest with the buffer " + text, tool.digest(), digestOf(tool, -9, text));
        }
        tool.append('x');
        Check.due("digest after a refused append", tool.digest(), digestOf(tool, -9, "~".repeat(59) + "!"));
        tool.clearInput();
        Check.due("digest of the cleared buffer", tool.digest(), digestOf(tool, -9, ""));
    }

    // 'firstSet of A, followSet of A, firstSet of B, followSet of B', and the others in their order
    private static void digestOfTheOrder() {
        String[] texts = {"A:Bb|a;B:c|", "A:BC|Ad;B:|e;C:Cc|f", "A:P;P:|hP", "A:BB;B:A|b", "A:aA|b", "A:AA|a", "B:Ba|Cb;C:|c", "A:aB|bA;B:g|hB"};
        for (String text : texts) {
            GrammarReshaper tool = Check.loaded(text);
            Check.due("digest of " + text, tool.digest(), digestOf(tool, -9, ""));
        }
        GrammarReshaper tool = Check.loaded("A:Ba|;B:Bb|c;P:P");
        long due = hash(1811, 5, 0, 'A', 2, 'A', 'B', 'a', 2, 'B', 'B', 'b', 1, 'B', 'c', 1, 'P', 'P',
            1, 3, 3, 2 + (1 << 15), 4, 256, 4, 3, 0, 0, 0, 1, 0, 1, -9, 0);
        Check.due("digest, value by value", tool.digest(), due);
    }

    // 'in long arithmetic with overflow'
    private static void digestOfFullStates() {
        GrammarReshaper tool = Check.sixty();
        tool.save();
        Check.write(tool, "~".repeat(60));
        Check.due("digest of 60 productions and 60 characters", tool.digest(), digestOf(tool, 60, "~".repeat(60)));
        GrammarReshaper wide = Check.loaded("A:PPPPPPPP|hhhhhhhh;P:|hhhhhhhh|OOOOOOOO|NNNNNNNN");
        Check.due("digest of right sides of 8", wide.digest(), digestOf(wide, -9, ""));
    }

    // 'Computes a hash of the whole state': it changes nothing of it
    private static void digestChangesNothing() {
        GrammarReshaper tool = Check.loaded("A:Ab|a");
        tool.save();
        Check.write(tool, "a");
        String before = Check.stateOf(tool);
        Check.due("digest", tool.digest(), tool.digest());
        Check.due("state after digest", Check.stateOf(tool), before);
        Check.due("accepts after digest", tool.accepts(), 1);
        Check.due("buffer after digest", tool.clearInput(), 1);
    }

    // 'An object is used for at most 512 calls after it has been made'
    private static void fiveHundredAndTwelveCalls() {
        GrammarReshaper tool = new GrammarReshaper();
        long first = tool.digest();
        for (int call = 2; call < 512; call += 10) {
            tool.append('A');
            tool.append(':');
            tool.append('A');
            tool.append('b');
            tool.append('|');
            tool.append('a');
            Check.due("load in call " + (call + 6), tool.load(), 2);
            Check.due("toGreibach in call " + (call + 7), tool.toGreibach(), 4);
            Check.due("words in call " + (call + 8), tool.countWords(2), 1);
            Check.due("removeUseless in call " + (call + 9), tool.removeUseless(), 0);
        }
        Check.due("the 512th call", tool.productionCount(), 4);
        Check.due("another object", new GrammarReshaper().digest(), first);
    }
}
