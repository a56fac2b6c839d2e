/** The document's four examples. */
public final class ExamplesTest {
    private ExamplesTest() {
    }

    public static void main(String[] args) {
        leftRecursion();
        emptyProductions();
        withoutWords();
        errors();
        Check.finish();
    }

    private static void leftRecursion() {
        GrammarReshaper tool = Check.written("A:Ab|a");
        Check.due("1 load", tool.load(), 2);
        Check.due("1 removeLeftRecursion", tool.removeLeftRecursion(), 4);
        Check.due("1 symbol(1, 1)", tool.symbol(1, 1), 97);
        Check.due("1 symbol(1, 2)", tool.symbol(1, 2), 66);
        Check.due("1 symbol(2, 1)", tool.symbol(2, 1), 98);
        Check.due("1 symbol(3, 2)", tool.symbol(3, 2), 66);
        Check.due("1 leftRecursiveSet", tool.leftRecursiveSet(), 0);
        Check.due("1 firstSet(0)", tool.firstSet(0), 1);
        Check.due("1 followSet(1)", tool.followSet(1), 256);
        Check.due("1 symbol(4, 0)", tool.symbol(4, 0), -5);
    }

    private static void emptyProductions() {
        GrammarReshaper tool = Check.written("A:BB;B:|b");
        Check.due("2 load", tool.load(), 3);
        Check.due("2 nullableSet", tool.nullableSet(), 3);
        Check.due("2 removeEmpty", tool.removeEmpty(), 3);
        Check.due("2 unitReach(0)", tool.unitReach(0), 3);
        Check.due("2 countWords(0)", tool.countWords(0), 0);
        Check.due("2 countWords(1)", tool.countWords(1), 1);
    }

    private static void withoutWords() {
        GrammarReshaper tool = Check.written("A:aB");
        Check.due("3 load", tool.load(), 1);
        Check.due("3 firstSet(1)", tool.firstSet(1), 0);
        Check.due("3 productiveSet", tool.productiveSet(), 0);
        Check.due("3 toChomsky", tool.toChomsky(), 2);
        Check.due("3 removeUseless", tool.removeUseless(), 2);
        Check.due("3 productionCount", tool.productionCount(), 0);
    }

    private static void errors() {
        GrammarReshaper tool = Check.written("A:a;b");
        Check.due("4 load", tool.load(), -4);
        Check.due("4 firstError", tool.firstError(), 4);
        Check.due("4 clearInput", tool.clearInput(), 5);
        Check.write(tool, "A:A");
        Check.due("4 load again", tool.load(), 1);
        Check.due("4 toGreibach", tool.toGreibach(), -8);
        Check.due("4 reachableSet", tool.reachableSet(), 1);
    }
}
