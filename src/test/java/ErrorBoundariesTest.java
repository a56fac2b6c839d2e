import java.util.LinkedHashMap;
import java.util.Map;
import java.util.function.LongSupplier;

/**
 * 'Errors': every error code of every call, in a state with a grammar, another saved one and text in
 * the buffer, changes nothing; and no other answer is negative.
 */
public final class ErrorBoundariesTest {
    private ErrorBoundariesTest() {
    }

    public static void main(String[] args) {
        codes();
        inputErrors();
        rangeErrors();
        transformationErrors();
        nothingSaved();
        grammarAfterErrors();
        noOtherResultIsNegative();
        Check.finish();
    }

    // 'All error codes are negative'
    private static void codes() {
        Check.due("NONE", GrammarReshaper.NONE, -1);
        Check.due("BAD_CHARACTER", GrammarReshaper.BAD_CHARACTER, -2);
        Check.due("BUFFER_FULL", GrammarReshaper.BUFFER_FULL, -3);
        Check.due("INVALID_INPUT", GrammarReshaper.INVALID_INPUT, -4);
        Check.due("NO_SUCH_PRODUCTION", GrammarReshaper.NO_SUCH_PRODUCTION, -5);
        Check.due("OUT_OF_RANGE", GrammarReshaper.OUT_OF_RANGE, -6);
        Check.due("TOO_LARGE", GrammarReshaper.TOO_LARGE, -7);
        Check.due("NOT_ALLOWED", GrammarReshaper.NOT_ALLOWED, -8);
        Check.due("NOTHING_SAVED", GrammarReshaper.NOTHING_SAVED, -9);
    }

    /** A tool with the grammar, the saved grammar "A:h|hh|" and the text in its buffer. */
    private static GrammarReshaper prepared(String grammar, String buffer) {
        GrammarReshaper tool = Check.loaded("A:h|hh|");
        tool.save();
        Check.write(tool, grammar);
        tool.load();
        Check.write(tool, buffer);
        return tool;
    }

    private static void dueRefused(String what, GrammarReshaper tool, LongSupplier call, int error) {
        Check.refused(what, tool, call, error);
        Check.due("saved one after " + what, tool.restore(), 3);
        Check.due("words of the saved one after " + what, Check.grammarOf(tool), "A: A:h A:hh");
    }

    // 'A method that returns an error code changes nothing'
    private static void inputErrors() {
        GrammarReshaper bad = prepared("A:a", "A:");
        dueRefused("append of 127", bad, () -> bad.append(127), -2);
        GrammarReshaper full = prepared("A:a", "A:" + "|".repeat(58));
        dueRefused("append of the 61st", full, () -> full.append('|'), -3);
        GrammarReshaper broken = prepared("A:a", "A:a;");
        dueRefused("load", broken, broken::load, -4);
        GrammarReshaper noWord = prepared("A:a", "aaaaaaaaaaa");
        dueRefused("accepts", noWord, noWord::accepts, -4);
        GrammarReshaper noTrees = prepared("A:a", "aaaaaaaaaaa");
        dueRefused("countTrees", noTrees, noTrees::countTrees, -4);
        GrammarReshaper endless = prepared("A:a|", "a");
        dueRefused("countTrees with an empty production", endless, endless::countTrees, -8);
        GrammarReshaper circle = prepared("A:a|B;B:A", "a");
        dueRefused("countTrees with a circle", circle, circle::countTrees, -8);
    }

    // 'A method that returns an error code changes nothing': NO_SUCH_PRODUCTION, NONE and OUT_OF_RANGE
    private static void rangeErrors() {
        GrammarReshaper tool = prepared("A:a|b", "abc");
        Check.refused("symbol(2, 0)", tool, () -> tool.symbol(2, 0), -5);
        Check.refused("symbol(-1, 0)", tool, () -> tool.symbol(-1, 0), -5);
        Check.refused("symbol(0, 2)", tool, () -> tool.symbol(0, 2), -1);
        Check.refused("unitReach(16)", tool, () -> tool.unitReach(16), -6);
        Check.refused("firstSet(-1)", tool, () -> tool.firstSet(-1), -6);
        Check.refused("followSet(16)", tool, () -> tool.followSet(16), -6);
        Check.refused("countWords(3)", tool, () -> tool.countWords(3), -6);
        dueRefused("countDifferences(-1)", tool, () -> tool.countDifferences(-1), -6);
    }

    // 'the transformation returns TOO_LARGE, and the grammar is not changed'
    private static void transformationErrors() {
        GrammarReshaper empty = prepared("A:BCDEFG|AG;B:;C:;D:;E:;F:;G:", "abc");
        dueRefused("removeEmpty", empty, empty::removeEmpty, -7);
        GrammarReshaper units = prepared("A:B;C:B;D:B;E:B;B:a|b|c|d|e|f|g|h|aa|ab|ac|ad|ae", "abc");
        dueRefused("removeUnits", units, units::removeUnits, -7);
        GrammarReshaper chomsky = prepared("A:BBBBBBBB|ABBBBBBB|BBBB|ABB|aA", "abc");
        dueRefused("toChomsky", chomsky, chomsky::toChomsky, -7);
        GrammarReshaper noChomsky = prepared("A:abc|", "abc");
        dueRefused("toChomsky with an empty production", noChomsky, noChomsky::toChomsky, -8);
        GrammarReshaper recursion = prepared("A:Aa|a;B:Ab|Bb|bbbbbbbb", "abc");
        dueRefused("removeLeftRecursion", recursion, recursion::removeLeftRecursion, -7);
        GrammarReshaper noRecursion = prepared("A:Aa|a;P:P", "abc");
        dueRefused("removeLeftRecursion with a circle", noRecursion, noRecursion::removeLeftRecursion, -8);
        GrammarReshaper factor = prepared("A:aBCDEFGH|aIJKLMNO|ba|bb", "abc");
        dueRefused("leftFactor", factor, factor::leftFactor, -7);
        GrammarReshaper greibach = prepared("A:Ba|c;B:bBBBBBBB|Aa", "abc");
        dueRefused("toGreibach", greibach, greibach::toGreibach, -7);
        GrammarReshaper noGreibach = prepared("A:Ba|c;B:", "abc");
        dueRefused("toGreibach with an empty production", noGreibach, noGreibach::toGreibach, -8);
    }

    // 'NOTHING_SAVED if no grammar has been saved': and nothing is saved by asking
    private static void nothingSaved() {
        GrammarReshaper tool = Check.loaded("A:a|b");
        Check.write(tool, "abc");
        Check.refused("restore", tool, tool::restore, -9);
        Check.refused("countDifferences(0)", tool, () -> tool.countDifferences(0), -9);
        Check.due("restore after countDifferences", tool.restore(), -9);
    }

    // The next transformation must not find remains of one that was refused.
    private static void grammarAfterErrors() {
        GrammarReshaper tool = prepared("A:Aa|bbbbbbbb", "A:Ab|a");
        Check.due("a refused one", tool.removeLeftRecursion(), -7);
        Check.due("another call after it", tool.leftFactor(), 2);
        Check.due("the grammar after it", Check.grammarOf(tool), "A:Aa A:bbbbbbbb");
        Check.due("load after it", tool.load(), 2);
        Check.due("one that is not refused", tool.removeLeftRecursion(), 4);
        Check.due("what it makes", Check.grammarOf(tool), "A:a A:aB B:b B:bB");
        Check.due("restore after it", tool.restore(), 3);
        Check.due("removeEmpty after it", tool.removeEmpty(), 2);
    }

    // 'and no other result is, except NONE where a method says so, the result of countTrees if the
    // number is too great for a long, and that of digest'
    private static void noOtherResultIsNegative() {
        for (String text : new String[] {"A:", "P:P", "A:AP|h|;P:PA|OP|a", "A:BCDEFGHI|JKLMNOP|", "A:aA|hP;P:hP|PPPPPPPP"}) {
            GrammarReshaper tool = Check.loaded(text);
            tool.save();
            for (Map.Entry<String, LongSupplier> call : callsWithoutErrors(tool).entrySet()) {
                Check.due(call.getKey() + " of " + text + " is not negative", call.getValue().getAsLong() >= 0 ? 1 : 0, 1);
            }
        }
    }

    private static Map<String, LongSupplier> callsWithoutErrors(GrammarReshaper tool) {
        Map<String, LongSupplier> calls = new LinkedHashMap<>();
        calls.put("clearInput", tool::clearInput);
        calls.put("firstError", tool::firstError);
        calls.put("accepts", tool::accepts);
        calls.put("productionCount", tool::productionCount);
        calls.put("nullableSet", tool::nullableSet);
        calls.put("productiveSet", tool::productiveSet);
        calls.put("reachableSet", tool::reachableSet);
        calls.put("leftRecursiveSet", tool::leftRecursiveSet);
        calls.put("unitReach(15)", () -> tool.unitReach(15));
        calls.put("firstSet(15)", () -> tool.firstSet(15));
        calls.put("followSet(15)", () -> tool.followSet(15));
        calls.put("isLl1", tool::isLl1);
        calls.put("isChomsky", tool::isChomsky);
        calls.put("isGreibach", tool::isGreibach);
        calls.put("countWords(2)", () -> tool.countWords(2));
        calls.put("countDifferences(2)", () -> tool.countDifferences(2));
        calls.put("removeUseless", tool::removeUseless);
        calls.put("save", tool::save);
        calls.put("restore", tool::restore);
        return calls;
    }
}
