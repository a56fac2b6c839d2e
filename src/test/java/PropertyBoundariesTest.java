/**
 * The sentences about productions and their properties that name a boundary ('Grammars' and
 * promises 1 and 8 to 19), each with a test of its own.
 */
public final class PropertyBoundariesTest {
    private static final String CHAIN = "A:B;B:C;C:D;D:E;E:F;F:G;G:H;H:I;I:J;J:K;K:L;L:M;M:N;N:O;O:";
    private static final String CHAIN_DOWN = "A:P;P:O;O:N;N:M;M:L;L:K;K:J;J:I;I:H;H:G;G:F;F:E;E:D;D:C;C:";
    private static final int A_TO_O = Check.set("ABCDEFGHIJKLMNO");
    private static final int ALL_BUT_B = Check.set("ACDEFGHIJKLMNOP");
    private static final int[] NO_NONTERMINALS = {-1, 16, 17, 32, 65, -16, Integer.MIN_VALUE, Integer.MAX_VALUE};

    private PropertyBoundariesTest() {
    }

    public static void main(String[] args) {
        newObjectHasNothing();
        newObjectTransforms();
        objectsAreApart();
        orderOfProductions();
        orderFromAToP();
        numberOfProductions();
        productionsThatExist();
        indicesThatExist();
        noSuchProductionComesBeforeNone();
        nullable();
        productive();
        reachable();
        leftRecursiveBehindNullables();
        leftRecursiveInSteps();
        unitReachInSteps();
        nonterminalsThatExist();
        nonterminalsThatDoNot();
        first();
        firstBeforeUnproductive();
        followOfA();
        followThroughTheEnd();
        ll1();
        ll1AtTheEnd();
        chomsky();
        greibach();
        propertiesOfALaterGrammar();
        Check.finish();
    }

    // 'It has no productions at first'; 'Creates a tool with a grammar without productions'
    private static void newObjectHasNothing() {
        GrammarReshaper tool = new GrammarReshaper();
        Check.due("firstError", tool.firstError(), 0);
        Check.due("load", tool.load(), -4);
        Check.due("accepts", tool.accepts(), 0);
        Check.due("countTrees", tool.countTrees(), 0);
        Check.due("productionCount", tool.productionCount(), 0);
        Check.due("symbol(0, 0)", tool.symbol(0, 0), -5);
        Check.due("nullableSet", tool.nullableSet(), 0);
        Check.due("productiveSet", tool.productiveSet(), 0);
        Check.due("reachableSet", tool.reachableSet(), 1);
        Check.due("leftRecursiveSet", tool.leftRecursiveSet(), 0);
        for (int i = 0; i < 16; i++) {
            Check.due("unitReach", tool.unitReach(i), 1 << i);
            Check.due("firstSet", tool.firstSet(i), 0);
            Check.due("followSet", tool.followSet(i), i == 0 ? 256 : 0);
        }
        Check.due("isLl1", tool.isLl1(), 1);
        Check.due("isChomsky", tool.isChomsky(), 1);
        Check.due("isGreibach", tool.isGreibach(), 1);
        Check.due("restore", tool.restore(), -9);
        for (int length = 0; length <= 2; length++) {
            Check.due("countWords", tool.countWords(length), 0);
            Check.due("countDifferences", tool.countDifferences(length), -9);
        }
        Check.due("clearInput", tool.clearInput(), 0);
    }

    // 'Creates a tool with a grammar without productions': which can be transformed and saved
    private static void newObjectTransforms() {
        GrammarReshaper tool = new GrammarReshaper();
        Check.due("removeUseless", tool.removeUseless(), 0);
        Check.due("removeEmpty", tool.removeEmpty(), 0);
        Check.due("removeUnits", tool.removeUnits(), 0);
        Check.due("toChomsky", tool.toChomsky(), 0);
        Check.due("removeLeftRecursion", tool.removeLeftRecursion(), 0);
        Check.due("leftFactor", tool.leftFactor(), 0);
        Check.due("toGreibach", tool.toGreibach(), 0);
        Check.due("save", tool.save(), 0);
        Check.due("restore after save", tool.restore(), 0);
    }

    // 'Creates a tool with a grammar without productions': whatever other tools hold
    private static void objectsAreApart() {
        GrammarReshaper full = Check.sixty();
        full.save();
        Check.write(full, "xyz");
        GrammarReshaper tool = new GrammarReshaper();
        Check.due("productions of a later object", tool.productionCount(), 0);
        Check.due("saved by a later object", tool.restore(), -9);
        Check.due("buffer of a later object", tool.clearInput(), 0);
        Check.due("productions of the earlier one", full.productionCount(), 60);
        Check.due("buffer of the earlier one", full.clearInput(), 3);
    }

    // 'nonterminals come before terminals, and both are in alphabetical order; a right side that is a
    // proper prefix of another one comes before it'
    private static void orderOfProductions() {
        dueOrder("A:a|P", "A:P A:a");
        dueOrder("A:b|a|B|A", "A:A A:B A:a A:b");
        dueOrder("A:h|P|", "A: A:P A:h");
        dueOrder("A:aa|a|aA", "A:a A:aA A:aa");
        dueOrder("A:AAAAAAAA|AAAAAAA", "A:AAAAAAA A:AAAAAAAA");
        dueOrder("A:aaaaaaab|aaaaaaaa|aaaaaaaA", "A:aaaaaaaA A:aaaaaaaa A:aaaaaaab");
        // Not the longer one last, but the one that is greater at the first difference.
        dueOrder("A:b|aaaaaaaa|B|AAAAAAAA", "A:AAAAAAAA A:B A:aaaaaaaa A:b");
        dueOrder("A:hA|gh", "A:gh A:hA");
    }

    // 'ordered by their left sides (A first), then by their right sides'
    private static void orderFromAToP() {
        dueOrder("P:;O:A;A:h", "A:h O:A P:");
        dueOrder("B:A;A:B", "A:B B:A");
        dueOrder("B:;A:hhhhhhhh", "A:hhhhhhhh B:");
    }

    private static void dueOrder(String text, String order) {
        Check.due("order of " + text, Check.grammarOf(Check.loaded(text)), order);
    }

    // 'A grammar is a set of at most 60 productions'; 'Returns the number of productions'
    private static void numberOfProductions() {
        Check.due("one production", Check.loaded("A:").productionCount(), 1);
        GrammarReshaper tool = Check.sixty();
        Check.due("60 productions", tool.productionCount(), 60);
        Check.due("60 productions again", tool.productionCount(), 60);
        Check.due("nullable of 60", tool.nullableSet(), 0);
        Check.due("productive of 60", tool.productiveSet(), Check.set("ABCDE"));
        Check.due("reachable of 60", tool.reachableSet(), 1);
        Check.due("first of the 60th", tool.firstSet(4), 255);
        Check.due("LL(1) with 60", tool.isLl1(), 0);
        Check.due("Chomsky with 60", tool.isChomsky(), 0);
        Check.due("words of 60", tool.countWords(2), 4);
    }

    // 'NO_SUCH_PRODUCTION if the production does not exist'; 'numbered from 0'
    private static void productionsThatExist() {
        GrammarReshaper tool = Check.sixty();
        Check.due("symbol(0, 0) of 60", tool.symbol(0, 0), 'A');
        Check.due("symbol(11, 0) of 60", tool.symbol(11, 0), 'A');
        Check.due("symbol(12, 0) of 60", tool.symbol(12, 0), 'B');
        Check.due("symbol(59, 0) of 60", tool.symbol(59, 0), 'E');
        Check.due("symbol(59, 1) of 60", tool.symbol(59, 1), 'h');
        int[] missing = {-1, 60, 61, 64, Integer.MIN_VALUE, Integer.MAX_VALUE};
        for (int production : missing) {
            Check.refused("symbol(" + production + ", 0) of 60", tool, () -> tool.symbol(production, 0), -5);
        }
        GrammarReshaper one = Check.loaded("A:a");
        Check.due("symbol(0, 0) of one", one.symbol(0, 0), 'A');
        Check.refused("symbol(1, 0) of one", one, () -> one.symbol(1, 0), -5);
        Check.refused("symbol(-1, 0) of one", one, () -> one.symbol(-1, 0), -5);
    }

    // 'NONE if index is negative or greater than the length of the right side'
    private static void indicesThatExist() {
        GrammarReshaper tool = Check.loaded("A:|aP;P:hhhhhhhA");
        for (int index = -3; index <= 12; index++) {
            Check.due("symbol(0, " + index + ")", tool.symbol(0, index), index == 0 ? 'A' : -1);
            Check.due("symbol(1, " + index + ")", tool.symbol(1, index), index >= 0 && index < 3 ? "AaP".charAt(index) : -1);
            Check.due("symbol(2, " + index + ")", tool.symbol(2, index), index >= 0 && index < 9 ? "PhhhhhhhA".charAt(index) : -1);
        }
        Check.due("symbol(2, least)", tool.symbol(2, Integer.MIN_VALUE), -1);
        Check.due("symbol(2, greatest)", tool.symbol(2, Integer.MAX_VALUE), -1);
    }

    // 'If several errors apply, the one that is listed first is returned'
    private static void noSuchProductionComesBeforeNone() {
        GrammarReshaper tool = Check.loaded("A:a");
        Check.due("symbol(1, -1)", tool.symbol(1, -1), -5);
        Check.due("symbol(-1, 2)", tool.symbol(-1, 2), -5);
        Check.due("symbol(0, -1)", tool.symbol(0, -1), -1);
        Check.due("symbol(0, 2)", tool.symbol(0, 2), -1);
    }

    // 'nullable if the empty word can be derived from it'
    private static void nullable() {
        Check.due("an empty right side", Check.loaded("A:").nullableSet(), 1);
        Check.due("of P", Check.loaded("P:").nullableSet(), 1 << 15);
        Check.due("itself alone", Check.loaded("A:A|AA").nullableSet(), 0);
        Check.due("eight of them", Check.loaded("A:BBBBBBBB;B:").nullableSet(), 3);
        Check.due("a terminal at the 8th place", Check.loaded("A:BBBBBBBa;B:").nullableSet(), 2);
        Check.due("a terminal at the first place", Check.loaded("A:aB;B:").nullableSet(), 2);
        Check.due("one without productions", Check.loaded("A:BC;B:").nullableSet(), 2);
        Check.due("down a chain", Check.loaded(CHAIN).nullableSet(), A_TO_O);
        Check.due("up a chain", Check.loaded(CHAIN_DOWN).nullableSet(), ALL_BUT_B);
    }

    // 'productive if a word of terminals (possibly empty) can be derived from it'
    private static void productive() {
        Check.due("an empty right side", Check.loaded("A:").productiveSet(), 1);
        Check.due("a terminal", Check.loaded("P:h").productiveSet(), 1 << 15);
        Check.due("itself alone", Check.loaded("A:A|aA").productiveSet(), 0);
        Check.due("one without productions", Check.loaded("A:aaaaaaaB").productiveSet(), 0);
        Check.due("eight of them", Check.loaded("A:BBBBBBBB;B:a").productiveSet(), 3);
        Check.due("down a chain", Check.loaded(CHAIN + "h").productiveSet(), A_TO_O);
        Check.due("up a chain", Check.loaded(CHAIN_DOWN + "h").productiveSet(), ALL_BUT_B);
        Check.due("not from A", Check.loaded("A:A;B:b").productiveSet(), 2);
    }

    // 'reachable if it is A or occurs on the right side of a production whose left side is reachable'
    private static void reachable() {
        Check.due("A without productions", Check.loaded("B:A").reachableSet(), 1);
        Check.due("at the 8th place", Check.loaded("A:aaaaaaaP").reachableSet(), 1 + (1 << 15));
        Check.due("behind one that is not productive", Check.loaded("A:BC").reachableSet(), 7);
        Check.due("not from others", Check.loaded("A:a;B:C").reachableSet(), 1);
        Check.due("down a chain", Check.loaded(CHAIN).reachableSet(), A_TO_O);
        Check.due("up a chain", Check.loaded(CHAIN_DOWN).reachableSet(), ALL_BUT_B);
        Check.due("all", Check.loaded("A:BCDEFGHI|JKLMNOP").reachableSet(), 65535);
    }

    // 'only nullable nonterminals (or nothing) stand before an occurrence of Y'
    private static void leftRecursiveBehindNullables() {
        Check.due("nothing before it", Check.loaded("A:Aa").leftRecursiveSet(), 1);
        Check.due("at the 8th place", Check.loaded("A:BBBBBBBA;B:").leftRecursiveSet(), 1);
        Check.due("behind a terminal", Check.loaded("A:aA").leftRecursiveSet(), 0);
        Check.due("behind a terminal at the 7th place", Check.loaded("A:BBBBBBaA;B:").leftRecursiveSet(), 0);
        Check.due("behind one that is not nullable", Check.loaded("A:BCA;B:;C:c").leftRecursiveSet(), 0);
        Check.due("behind one without productions", Check.loaded("A:BA").leftRecursiveSet(), 0);
        Check.due("behind itself", Check.loaded("A:|PA;P:AP|").leftRecursiveSet(), 1 + (1 << 15));
        Check.due("each of several", Check.loaded("A:BC;B:A|;C:c").leftRecursiveSet(), 3);
        Check.due("what follows it is free", Check.loaded("P:PaAbB").leftRecursiveSet(), 1 << 15);
    }

    // 'left-recursive if it leads to itself in one or more such steps'
    private static void leftRecursiveInSteps() {
        Check.due("no step", Check.loaded("A:B;B:b").leftRecursiveSet(), 0);
        Check.due("one step", Check.loaded("A:A").leftRecursiveSet(), 1);
        Check.due("two steps", Check.loaded("A:B;B:A").leftRecursiveSet(), 3);
        Check.due("15 steps", Check.loaded(CHAIN + "A").leftRecursiveSet(), A_TO_O);
        Check.due("15 steps down", Check.loaded(CHAIN_DOWN + "A").leftRecursiveSet(), ALL_BUT_B);
        Check.due("into a circle only", Check.loaded("A:B;B:C;C:B").leftRecursiveSet(), 6);
    }

    // 'by zero or more unit productions'
    private static void unitReachInSteps() {
        GrammarReshaper tool = Check.loaded(CHAIN);
        Check.due("14 steps", tool.unitReach(0), A_TO_O);
        Check.due("one step", tool.unitReach(13), Check.set("NO"));
        Check.due("zero steps", tool.unitReach(14), Check.set("O"));
        Check.due("zero steps of one that is not in use", tool.unitReach(15), Check.set("P"));
        Check.due("down", Check.loaded(CHAIN_DOWN).unitReach(0), ALL_BUT_B);
        Check.due("to itself", Check.loaded("A:A").unitReach(0), 1);
        Check.due("by each of several", Check.loaded("A:B|C|P").unitReach(0), Check.set("ABCP"));
        Check.due("two symbols are no unit", Check.loaded("A:BB|Ba|aB|;B:").unitReach(0), 1);
        Check.due("a terminal is no unit", Check.loaded("A:a|h").unitReach(0), 1);
        Check.due("no step from what it reaches", Check.loaded("A:B").unitReach(1), 2);
    }

    // 'OUT_OF_RANGE if nonterminal is not 0 to 15'; '0 for A, 15 for P'
    private static void nonterminalsThatExist() {
        GrammarReshaper tool = Check.loaded("A:Pa;P:h|O");
        for (int i = 0; i < 16; i++) {
            int units = i == 15 ? Check.set("OP") : 1 << i;
            Check.due("unitReach(" + i + ")", tool.unitReach(i), units);
            Check.due("firstSet(" + i + ")", tool.firstSet(i), i == 0 || i == 15 ? 128 : 0);
            Check.due("followSet(" + i + ")", tool.followSet(i), i == 0 ? 256 : i >= 14 ? 1 : 0);
        }
    }

    // 'OUT_OF_RANGE if nonterminal is not 0 to 15'
    private static void nonterminalsThatDoNot() {
        GrammarReshaper tool = Check.loaded("A:Pa;P:h|O");
        for (int wrong : NO_NONTERMINALS) {
            Check.refused("unitReach(" + wrong + ")", tool, () -> tool.unitReach(wrong), GrammarReshaper.OUT_OF_RANGE);
            Check.refused("firstSet(" + wrong + ")", tool, () -> tool.firstSet(wrong), GrammarReshaper.OUT_OF_RANGE);
            Check.refused("followSet(" + wrong + ")", tool, () -> tool.followSet(wrong), GrammarReshaper.OUT_OF_RANGE);
        }
    }

    // 'the terminals with which a sequence of symbols derived from it can begin'
    private static void first() {
        Check.due("a and h", Check.loaded("A:a|h").firstSet(0), 129);
        Check.due("all terminals", Check.loaded("A:a|b|c|d|e|f|g|h").firstSet(0), 255);
        Check.due("an empty right side", Check.loaded("A:").firstSet(0), 0);
        Check.due("at the 8th place", Check.loaded("A:BBBBBBBh;B:").firstSet(0), 128);
        Check.due("up to a terminal", Check.loaded("A:Bah;B:").firstSet(0), 1);
        Check.due("up to one that is not nullable", Check.loaded("A:BCd;B:b|;C:c").firstSet(0), 6);
        Check.due("down a chain", Check.loaded(CHAIN + "h").firstSet(0), 128);
        Check.due("up a chain", Check.loaded(CHAIN_DOWN + "h").firstSet(0), 128);
        Check.due("from itself", Check.loaded("A:Ah|a").firstSet(0), 1);
        Check.due("with and without a nullable one", Check.loaded("B:|a;C:Ba").firstSet(2), 1);
        Check.due("from itself if it is nullable", Check.loaded("A:Ah|").firstSet(0), 128);
    }

    // '(also with terminals before symbols that are not productive)'
    private static void firstBeforeUnproductive() {
        Check.due("before one without productions", Check.loaded("A:hB").firstSet(0), 128);
        Check.due("before itself", Check.loaded("A:hA").firstSet(0), 128);
        Check.due("behind one without productions", Check.loaded("A:Bh").firstSet(0), 0);
        Check.due("in one that is not productive", Check.loaded("A:Ba;B:hC").firstSet(0), 128);
    }

    // 'that of A contains the end marker (bit 8)'
    private static void followOfA() {
        Check.due("A without productions", Check.loaded("B:b").followSet(0), 256);
        Check.due("A before h", Check.loaded("B:Ah").followSet(0), 256 + 128);
        Check.due("not of B", Check.loaded("B:b").followSet(1), 0);
        Check.due("all terminals and the end", Check.loaded("A:AB|a;B:a|b|c|d|e|f|g|h").followSet(0), 511);
    }

    // 'and, if all symbols of v are nullable or v is empty, the FOLLOW set of Y'
    private static void followThroughTheEnd() {
        Check.due("v is empty", Check.loaded("A:aP").followSet(15), 256);
        Check.due("v is nullable", Check.loaded("A:PBBBBBBB;B:|b").followSet(15), 256 + 2);
        Check.due("v ends with another", Check.loaded("A:PBBBBBBh;B:|b").followSet(15), 128 + 2);
        Check.due("v has one without productions", Check.loaded("A:PBC;B:b|").followSet(15), 2);
        Check.due("v is a terminal", Check.loaded("A:Pa").followSet(15), 1);
        Check.due("down a chain", Check.loaded(CHAIN).followSet(14), 256);
        Check.due("up a chain", Check.loaded(CHAIN_DOWN).followSet(2), 256);
        Check.due("from one that is not reachable", Check.loaded("A:a;B:PC;C:h").followSet(15), 128);
        Check.due("what v begins with, though not productive", Check.loaded("A:PB;B:hC").followSet(15), 128);
        // E gets a from C, C from F, and F from G: against the order of the productions.
        Check.due("against the order", Check.loaded("C:E;D:;F:CD;G:Fa|Da").followSet(4), 1);
        Check.due("at both ends", Check.loaded("A:PaP").followSet(15), 257);
    }

    // 'no two productions with the same left side have lookahead sets with a common element'
    private static void ll1() {
        Check.due("no productions", new GrammarReshaper().isLl1(), 1);
        Check.due("one production", Check.loaded("A:a").isLl1(), 1);
        Check.due("a common element", Check.loaded("A:a|aa").isLl1(), 0);
        Check.due("no common element", Check.loaded("A:a|b|c|d|e|f|g|h|").isLl1(), 1);
        Check.due("the last two of nine", Check.loaded("A:a|b|c|d|e|f|g|h|hh").isLl1(), 0);
        Check.due("the first and the last", Check.loaded("A:Ba|b|c;B:c").isLl1(), 0);
        Check.due("other left sides", Check.loaded("A:a;B:a;P:a").isLl1(), 1);
        Check.due("of P alone", Check.loaded("A:a;P:h|hh").isLl1(), 0);
        Check.due("empty sets have nothing in common", Check.loaded("A:B|C|BB").isLl1(), 1);
    }

    // 'and, if all symbols of u are nullable or u is empty, the FOLLOW set of Y'
    private static void ll1AtTheEnd() {
        Check.due("the end marker alone", Check.loaded("A:|B;B:").isLl1(), 0);
        Check.due("the end marker once", Check.loaded("A:|a").isLl1(), 1);
        Check.due("without a FOLLOW set", Check.loaded("A:a;P:|B;B:").isLl1(), 1);
        Check.due("u is empty", Check.loaded("A:Ph;P:|h").isLl1(), 0);
        Check.due("u is nullable", Check.loaded("A:Ph;P:BBBBBBBB|h;B:").isLl1(), 0);
        Check.due("u ends with another", Check.loaded("A:Ph;P:BBBBBBBa|h;B:").isLl1(), 1);
    }

    // 'every right side is a single terminal or consists of exactly two nonterminals'
    private static void chomsky() {
        String[] yes = {"A:h", "A:AA", "A:PO|h", "A:a;P:PP"};
        String[] no = {"A:", "A:A", "A:aA", "A:Aa", "A:aa", "A:AAA", "A:ABCDEFGH", "A:a|AA|", "A:a;P:P", "A:a;P:Ah"};
        Check.due("isChomsky without productions", new GrammarReshaper().isChomsky(), 1);
        for (String text : yes) {
            Check.due("isChomsky of " + text, Check.loaded(text).isChomsky(), 1);
        }
        for (String text : no) {
            Check.due("isChomsky of " + text, Check.loaded(text).isChomsky(), 0);
        }
    }

    // 'every right side is a terminal followed by zero or more nonterminals'
    private static void greibach() {
        String[] yes = {"A:h", "A:aA", "A:aBCDEFGP", "A:a|b;P:hP"};
        String[] no = {"A:", "A:A", "A:Aa", "A:aa", "A:aAAAAAAa", "A:aaAAAAAA", "A:a|aA|", "A:a;P:P", "A:a;P:hh"};
        Check.due("isGreibach without productions", new GrammarReshaper().isGreibach(), 1);
        for (String text : yes) {
            Check.due("isGreibach of " + text, Check.loaded(text).isGreibach(), 1);
        }
        for (String text : no) {
            Check.due("isGreibach of " + text, Check.loaded(text).isGreibach(), 0);
        }
    }

    // 'Replaces the grammar': no answer keeps anything of the grammar before
    private static void propertiesOfALaterGrammar() {
        GrammarReshaper tool = Check.loaded("A:BA|CP|h;B:A|;C:AB|;P:PC|gA");
        Check.due("digest of the first", tool.digest(), Check.loaded("A:BA|CP|h;B:A|;C:AB|;P:PC|gA").digest());
        Check.write(tool, "O:");
        tool.load();
        dueAnswersOfO(tool);
        tool.countTrees();
        tool.accepts();
        dueAnswersOfO(tool);
    }

    private static void dueAnswersOfO(GrammarReshaper tool) {
        Check.due("later leftRecursiveSet", tool.leftRecursiveSet(), 0);
        for (int i = 0; i < 16; i++) {
            Check.due("later firstSet", tool.firstSet(i), 0);
            Check.due("later leftRecursiveSet", tool.leftRecursiveSet(), 0);
            Check.due("later followSet", tool.followSet(i), i == 0 ? 256 : 0);
            Check.due("later unitReach", tool.unitReach(i), 1 << i);
        }
        Check.due("later nullableSet", tool.nullableSet(), 1 << 14);
        Check.due("later productiveSet", tool.productiveSet(), 1 << 14);
        Check.due("later reachableSet", tool.reachableSet(), 1);
        Check.due("later leftRecursiveSet", tool.leftRecursiveSet(), 0);
        Check.due("later countWords", tool.countWords(0) + tool.countWords(1) + tool.countWords(2), 0);
        Check.due("later accepts", tool.accepts(), 0);
        Check.due("later isLl1", tool.isLl1(), 1);
    }
}
