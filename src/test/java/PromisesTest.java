/** Each promise of the document: ordinary inputs, the edges that it names, and wrong inputs. */
public final class PromisesTest {
    private static final String SIXTY = "A:" + "|".repeat(58);

    private PromisesTest() {
    }

    public static void main(String[] args) {
        newObject();
        append();
        clearInput();
        firstError();
        load();
        accepts();
        countTrees();
        productionCountAndSymbol();
        nullableProductiveReachable();
        leftRecursiveSet();
        unitReach();
        firstSet();
        followSet();
        isLl1();
        isChomskyAndGreibach();
        removeUseless();
        removeEmpty();
        removeUnits();
        toChomsky();
        toChomskyTooLarge();
        removeLeftRecursion();
        removeLeftRecursionLimits();
        leftFactor();
        toGreibach();
        toGreibachLimits();
        saveAndRestore();
        countWords();
        countDifferences();
        digest();
        Check.finish();
    }

    private static void newObject() {
        GrammarReshaper tool = new GrammarReshaper();
        Check.due("1 productionCount", tool.productionCount(), 0);
        Check.due("1 clearInput", tool.clearInput(), 0);
        Check.due("1 restore", tool.restore(), -9);
        Check.due("1 countWords(0)", tool.countWords(0), 0);
        Check.due("1 nullableSet", tool.nullableSet(), 0);
        Check.due("1 reachableSet", tool.reachableSet(), 1);
        GrammarReshaper other = Check.loaded("A:a");
        Check.due("1 apart", tool.productionCount() + 10 * other.productionCount(), 10);
    }

    private static void append() {
        GrammarReshaper tool = new GrammarReshaper();
        int[] bad = {31, 127, 0, -1, 256 + 65, Integer.MIN_VALUE, Integer.MAX_VALUE};
        for (int code : bad) {
            Check.due("2 append " + code, tool.append(code), -2);
        }
        Check.due("2 append 32", tool.append(32), 1);
        Check.due("2 append 126", tool.append(126), 2);
        for (int i = 3; i <= 60; i++) {
            Check.due("2 append", tool.append('x'), i);
        }
        Check.due("2 append when full", tool.append('x'), -3);
        Check.due("2 bad append when full", tool.append(127), -2);
        Check.due("2 length when full", tool.clearInput(), 60);
    }

    private static void clearInput() {
        GrammarReshaper tool = Check.written("A:a");
        Check.due("3 clearInput", tool.clearInput(), 3);
        Check.due("3 clearInput again", tool.clearInput(), 0);
        Check.due("3 append after it", tool.append('a'), 1);
        Check.due("3 accepts after it", tool.accepts(), 0);
    }

    private static void firstError() {
        String[] faultless = {"", "A", "A:", "P:h|;", "A:a;B", "A:|||", "A:;B:;", "A:aaaaaaaa|bbbbbbbb;C:AAAAAAAA", SIXTY};
        for (String text : faultless) {
            Check.due("4 firstError of " + text, Check.written(text).firstError(), text.length());
        }
        String[] faults = {"/a", "/Q", "/:", "/|", "/;", "A/a", "A/|", "A/;", "A/A", "A:/:", "A:a/:b", "A:/i", "A:/Q", "A:/ a", "A:;/;",
            "A:;/a", "A:aaaaaaaa/a", "A:ABCDEFGH/A|", "A:|aaaaaaaa/a", "A:a|/*:::", "A:/@", "A:/`", "A:a;B/B"};
        for (String fault : faults) {
            int place = fault.indexOf('/');
            String text = fault.substring(0, place) + fault.substring(place + 1);
            Check.due("4 firstError of " + text, Check.written(text).firstError(), place);
        }
    }

    private static void load() {
        String[] refused = {"", "A", "A:a;", "A:a;B", "a", "A:a;b", "A:aaaaaaaaa", "B", ";", "A:a ", "A:a:b"};
        for (String text : refused) {
            GrammarReshaper tool = Check.loaded("A:b");
            Check.write(tool, text);
            Check.due("5 load of " + text, tool.load(), -4);
            Check.due("5 grammar after " + text, Check.grammarOf(tool), "A:b");
            Check.due("5 buffer after " + text, tool.clearInput(), text.length());
        }
        GrammarReshaper tool = Check.written("A:aAb|;B:c");
        Check.due("5 load", tool.load(), 3);
        Check.due("5 grammar", Check.grammarOf(tool), "A: A:aAb B:c");
        Check.due("5 buffer after load", tool.clearInput(), 0);
        Check.write(tool, "P:h;A:;P:h|hh|PP|P|A;A:|aA|Aa");
        Check.due("5 load again", tool.load(), 8);
        Check.due("5 order", Check.grammarOf(tool), "A: A:Aa A:aA P:A P:P P:PP P:h P:hh");
        Check.write(tool, SIXTY);
        Check.due("5 load of many times the same", tool.load(), 1);
        Check.write(tool, "B:abcdefgh|ABCDEFGH");
        Check.due("5 load of long right sides", tool.load(), 2);
        Check.due("5 long right sides", Check.grammarOf(tool), "B:ABCDEFGH B:abcdefgh");
    }

    private static void dueAccepts(String grammar, String word, int want) {
        GrammarReshaper tool = Check.loaded(grammar);
        Check.write(tool, word);
        Check.due("6 accepts " + word + " by " + grammar, tool.accepts(), want);
        Check.due("6 buffer after accepts", tool.clearInput(), word.length());
    }

    private static void accepts() {
        dueAccepts("A:aAb|", "", 1);
        dueAccepts("A:aAb|", "aaaaabbbbb", 1);
        dueAccepts("A:aAb|", "aaaaabbbb", 0);
        dueAccepts("A:aAb|", "aba", 0);
        dueAccepts("A:a", "", 0);
        dueAccepts("A:A|B;B:A|C;C:h", "h", 1);
        dueAccepts("A:BBBBBBBB;B:|CC;C:|a", "aaaaaaaaaa", 1);
        dueAccepts("A:AA|a|", "aaaaaaaaaa", 1);
        dueAccepts("A:ABA|b;B:", "bb", 1);
        dueAccepts("B:a", "a", 0);
        String[] noWords = {"A", "i", "aaaaaaaaaaa", "a b", "aA", "a:"};
        for (String word : noWords) {
            dueAccepts("A:a", word, -4);
        }
    }

    private static void dueTrees(String grammar, String word, long want) {
        GrammarReshaper tool = Check.loaded(grammar);
        Check.write(tool, word);
        Check.due("7 countTrees " + word + " by " + grammar, tool.countTrees(), want);
        Check.due("7 buffer after countTrees", tool.clearInput(), word.length());
    }

    private static void countTrees() {
        dueTrees("A:AA|a", "a", 1);
        dueTrees("A:AA|a", "aaaa", 5);
        dueTrees("A:AA|a", "aaaaaaaaaa", 4862);
        dueTrees("A:AA|a", "", 0);
        dueTrees("A:AA|a", "aab", 0);
        dueTrees("A:B|C|a;B:C|a;C:a", "a", 4);
        dueTrees("A:B|C;B:DA|D;C:DC|D;D:a", "aaa", 4);
        dueTrees("A:AAA|AA|a", "aaaa", 10);
        dueTrees("C:B;B:A;A:a|CC", "aa", 1);
        dueTrees("A:a|", "a", -8);
        dueTrees("A:a;B:", "", -8);
        dueTrees("A:a;B:B", "a", -8);
        dueTrees("A:a;B:C;C:D;D:B", "a", -8);
        dueTrees("A:", "A", -4);
        dueTrees("A:a", "aaaaaaaaaaa", -4);
        // 68 chains of units lead from A to a, so each of the 4862 shapes has 68 ^ 10 trees.
        long trees = 4862;
        for (int i = 0; i < 10; i++) {
            trees *= 68;
        }
        dueTrees("A:AA|B|C;B:C|D;C:D|E;D:E|F;E:F|G;F:G|H;G:H|I;H:I|a;I:a", "a", 55);
        dueTrees("A:AA|B|C|D;B:C|D;C:D|E;D:E|F;E:F|G;F:G|H;G:H|I;H:I|a;I:a", "a", 68);
        dueTrees("A:AA|B|C|D;B:C|D;C:D|E;D:E|F;E:F|G;F:G|H;G:H|I;H:I|a;I:a", "aaaaaaaaaa", trees);
    }

    private static void productionCountAndSymbol() {
        GrammarReshaper tool = Check.loaded("A:aAb|;P:hhhhhhhh");
        Check.due("8 productionCount", tool.productionCount(), 3);
        Check.due("9 left side", tool.symbol(2, 0), 'P');
        Check.due("9 first symbol", tool.symbol(1, 1), 'a');
        Check.due("9 nonterminal", tool.symbol(1, 2), 'A');
        Check.due("9 last symbol", tool.symbol(2, 8), 'h');
        Check.due("9 behind an empty right side", tool.symbol(0, 1), -1);
        int[] beyond = {-1, 9, 10, 64, Integer.MIN_VALUE, Integer.MAX_VALUE};
        for (int index : beyond) {
            Check.due("9 index " + index, tool.symbol(2, index), -1);
        }
        int[] missing = {-1, 3, 60, 61, Integer.MIN_VALUE, Integer.MAX_VALUE};
        for (int production : missing) {
            Check.due("9 production " + production, tool.symbol(production, 0), -5);
            Check.due("9 production and index " + production, tool.symbol(production, -1), -5);
        }
    }

    private static void nullableProductiveReachable() {
        GrammarReshaper tool = Check.loaded("A:BC|aD;B:|CC;C:BB|E;D:aD;E:F;F:G|h;P:PA");
        Check.due("10 nullableSet", tool.nullableSet(), Check.set("ABC"));
        Check.due("11 productiveSet", tool.productiveSet(), Check.set("ABCEF"));
        Check.due("12 reachableSet", tool.reachableSet(), Check.set("ABCDEFG"));
        tool = Check.loaded("B:aP;P:;C:Ca");
        Check.due("10 nullableSet without A", tool.nullableSet(), Check.set("P"));
        Check.due("11 productiveSet without A", tool.productiveSet(), Check.set("BP"));
        Check.due("12 reachableSet without A", tool.reachableSet(), Check.set("A"));
    }

    private static void leftRecursiveSet() {
        Check.due("13 own", Check.loaded("A:Aa|a").leftRecursiveSet(), Check.set("A"));
        Check.due("13 right recursion", Check.loaded("A:aA|a").leftRecursiveSet(), 0);
        Check.due("13 circle", Check.loaded("A:Ba;B:Cb;C:Ac|Dd;D:d").leftRecursiveSet(), Check.set("ABC"));
        Check.due("13 behind nullable ones", Check.loaded("A:BCAa;B:|b;C:B").leftRecursiveSet(), Check.set("A"));
        Check.due("13 behind others", Check.loaded("A:BCAa;B:b;C:").leftRecursiveSet(), 0);
        Check.due("13 itself nullable", Check.loaded("A:AB|;B:bB").leftRecursiveSet(), Check.set("A"));
        Check.due("13 leading into a circle", Check.loaded("A:B;B:B").leftRecursiveSet(), Check.set("B"));
        Check.due("13 not reachable", Check.loaded("A:a;P:O;O:P").leftRecursiveSet(), Check.set("PO"));
    }

    private static void unitReach() {
        GrammarReshaper tool = Check.loaded("A:B|a;B:C|BD;C:D;D:B;E:A;F:GG");
        Check.due("14 A", tool.unitReach(0), Check.set("ABCD"));
        Check.due("14 D", tool.unitReach(3), Check.set("BCD"));
        Check.due("14 E", tool.unitReach(4), Check.set("ABCDE"));
        Check.due("14 F", tool.unitReach(5), Check.set("F"));
        Check.due("14 P", tool.unitReach(15), Check.set("P"));
        int[] wrong = {-1, 16, Integer.MIN_VALUE, Integer.MAX_VALUE};
        for (int nonterminal : wrong) {
            Check.due("14 wrong", tool.unitReach(nonterminal), -6);
            Check.due("15 wrong", tool.firstSet(nonterminal), -6);
            Check.due("16 wrong", tool.followSet(nonterminal), -6);
        }
    }

    private static void firstSet() {
        GrammarReshaper tool = Check.loaded("A:BCd|Ae;B:|b;C:Bc|;D:aE;P:Dh|h");
        Check.due("15 A", tool.firstSet(0), Check.set("bcd"));
        Check.due("15 B", tool.firstSet(1), Check.set("b"));
        Check.due("15 C", tool.firstSet(2), Check.set("bc"));
        Check.due("15 D, not productive", tool.firstSet(3), Check.set("a"));
        Check.due("15 E, without productions", tool.firstSet(4), 0);
        Check.due("15 P", tool.firstSet(15), Check.set("ah"));
        Check.due("15 all nullable", Check.loaded("A:BA|;B:b|").firstSet(0), Check.set("b"));
    }

    private static void followSet() {
        GrammarReshaper tool = Check.loaded("A:BCd|eA;B:|bB;C:Bc|;D:AhP");
        Check.due("16 A", tool.followSet(0), Check.set("h$"));
        Check.due("16 B", tool.followSet(1), Check.set("bcd"));
        Check.due("16 C", tool.followSet(2), Check.set("d"));
        Check.due("16 D, on no right side", tool.followSet(3), 0);
        Check.due("16 P, at the end of D", tool.followSet(15), 0);
        tool = Check.loaded("A:aBCD;B:b;C:c|;D:d|");
        Check.due("16 before nullable ones", tool.followSet(1), Check.set("cd$"));
        Check.due("16 without A", Check.loaded("B:b").followSet(0), Check.set("$"));
        Check.due("16 twice in a right side", Check.loaded("A:BaBb;B:c").followSet(1), Check.set("ab"));
    }

    private static void isLl1() {
        Check.due("17 distinct", Check.loaded("A:aA|b").isLl1(), 1);
        Check.due("17 same first", Check.loaded("A:aA|a").isLl1(), 0);
        Check.due("17 first and follow", Check.loaded("A:Ba;B:a|").isLl1(), 0);
        Check.due("17 first and other follow", Check.loaded("A:Bb;B:a|").isLl1(), 1);
        Check.due("17 two vanish", Check.loaded("A:B|C;B:;C:").isLl1(), 0);
        Check.due("17 two vanish without follow", Check.loaded("A:a;D:B|C;B:;C:").isLl1(), 1);
        Check.due("17 first and third", Check.loaded("A:Bb|a|b;B:a").isLl1(), 0);
        Check.due("17 same first of others", Check.loaded("A:aB;B:a").isLl1(), 1);
        Check.due("17 nothing to begin with", Check.loaded("A:B|C").isLl1(), 1);
        Check.due("17 none", new GrammarReshaper().isLl1(), 1);
    }

    private static void isChomskyAndGreibach() {
        String[] chomsky = {"A:a", "A:BC|a;B:AA", "P:h"};
        String[] notChomsky = {"A:", "A:B", "A:aB", "A:Ba", "A:ab", "A:BCD", "A:a;P:BBB", "A:AA|"};
        for (String grammar : chomsky) {
            Check.due("18 " + grammar, Check.loaded(grammar).isChomsky(), 1);
        }
        for (String grammar : notChomsky) {
            Check.due("18 " + grammar, Check.loaded(grammar).isChomsky(), 0);
        }
        String[] greibach = {"A:a", "A:aBCDEFGH|b", "P:hP"};
        String[] notGreibach = {"A:", "A:B", "A:Ba", "A:ab", "A:aBb", "A:a;P:A", "A:aA|", "A:BC"};
        for (String grammar : greibach) {
            Check.due("19 " + grammar, Check.loaded(grammar).isGreibach(), 1);
        }
        for (String grammar : notGreibach) {
            Check.due("19 " + grammar, Check.loaded(grammar).isGreibach(), 0);
        }
        Check.due("18 none", new GrammarReshaper().isChomsky(), 1);
        Check.due("19 none", new GrammarReshaper().isGreibach(), 1);
    }

    private static void dueUseless(String grammar, int removed, String left) {
        GrammarReshaper tool = Check.loaded(grammar);
        Check.due("20 removeUseless of " + grammar, tool.removeUseless(), removed);
        Check.due("20 what is left of " + grammar, Check.grammarOf(tool), left);
    }

    private static void removeUseless() {
        dueUseless("A:a|B;B:b", 0, "A:B A:a B:b");
        dueUseless("A:a|BC;B:b", 2, "A:a");
        dueUseless("A:AA", 1, "");
        dueUseless("B:b", 1, "");
        dueUseless("A:;B:A", 1, "A:");
        dueUseless("A:aB|c;B:bD|C;C:c;D:Dd;E:a", 3, "A:aB A:c B:C C:c");
        Check.due("20 none", new GrammarReshaper().removeUseless(), 0);
    }

    private static void dueEmpty(String grammar, int count, String left) {
        GrammarReshaper tool = Check.loaded(grammar);
        Check.due("21 removeEmpty of " + grammar, tool.removeEmpty(), count);
        Check.due("21 what is left of " + grammar, Check.grammarOf(tool), left);
    }

    private static void removeEmpty() {
        dueEmpty("A:aAb|", 2, "A:aAb A:ab");
        dueEmpty("A:", 0, "");
        dueEmpty("A:a", 1, "A:a");
        dueEmpty("A:BCB;B:|b;C:c", 6, "A:BC A:BCB A:C A:CB B:b C:c");
        dueEmpty("A:BB;B:C;C:|c", 4, "A:B A:BB B:C C:c");
        dueEmpty("A:AA|", 2, "A:A A:AA");
        dueEmpty("A:B;B:", 1, "A:B");
        GrammarReshaper tool = Check.loaded("A:BCDEFG;B:;C:;D:;E:;F:;G:");
        Check.due("21 63 productions", tool.removeEmpty(), -7);
        Check.due("21 not changed", Check.grammarOf(tool), "A:BCDEFG B: C: D: E: F: G:");
        // Leaving out any of eight equal ones gives but eight productions.
        Check.due("21 many times the same", Check.loaded("A:BBBBBBBB;B:").removeEmpty(), 8);
        String large = "A:BCDEF;G:BCDE;H:BCD;I:BC;B:;C:;D:;E:;F:|a|b|c|d";
        Check.due("21 60 productions", Check.loaded(large).removeEmpty(), 60);
        Check.due("21 61 productions", Check.loaded(large + "|e").removeEmpty(), -7);
    }

    private static void dueUnits(String grammar, int count, String left) {
        GrammarReshaper tool = Check.loaded(grammar);
        Check.due("22 removeUnits of " + grammar, tool.removeUnits(), count);
        Check.due("22 what is left of " + grammar, Check.grammarOf(tool), left);
    }

    private static void removeUnits() {
        dueUnits("A:B|a;B:C|b;C:A|c", 9, "A:a A:b A:c B:a B:b B:c C:a C:b C:c");
        dueUnits("A:A", 0, "");
        dueUnits("A:B", 0, "");
        dueUnits("A:B;B:|b", 4, "A: A:b B: B:b");
        dueUnits("A:B|b;B:b|CC;C:B", 6, "A:CC A:b B:CC B:b C:CC C:b");
        dueUnits("A:aB;B:b", 2, "A:aB B:b");
        String large = "A:B;C:B;D:B;E:B;B:a|b|c|d|e|f|g|h|aa|ab|ac|ad";
        Check.due("22 60 productions", Check.loaded(large).removeUnits(), 60);
        GrammarReshaper tool = Check.loaded(large + ";P:a");
        Check.due("22 61 productions", tool.removeUnits(), -7);
        Check.due("22 not changed", tool.productionCount(), 17);
    }

    private static void dueChomsky(String grammar, int count, String left) {
        GrammarReshaper tool = Check.loaded(grammar);
        Check.due("23 toChomsky of " + grammar, tool.toChomsky(), count);
        Check.due("23 what is left of " + grammar, Check.grammarOf(tool), left);
    }

    private static void toChomsky() {
        dueChomsky("A:abc|a", 6, "A:BE A:a B:a C:b D:c E:CD");
        dueChomsky("A:ca|C;C:c;A:cc", -8, "A:C A:ca A:cc C:c");
        dueChomsky("A:ca;C:c", 4, "A:DB B:a C:c D:c");
        dueChomsky("A:aaB", 3, "A:CD C:a D:CB");
        dueChomsky("A:BBBB;C:BBB", 5, "A:BD C:BE D:BF E:BB F:BB");
        dueChomsky("A:a|AA", 2, "A:AA A:a");
        dueChomsky("A:", -8, "A:");
        dueChomsky("A:a;P:", -8, "A:a P:");
        dueChomsky("A:aa;P:P", -8, "A:aa P:P");
        dueChomsky("B:ab", 3, "B:CD C:a D:b");
    }

    private static void toChomskyTooLarge() {
        dueChomsky("A:BC|DE|FG|HI|JK|LM|NO|PA", 8, "A:BC A:DE A:FG A:HI A:JK A:LM A:NO A:PA");
        dueChomsky("A:BC|DE|FG|HI|JK|LM|NO|PAA", -7, "A:BC A:DE A:FG A:HI A:JK A:LM A:NO A:PAA");
        dueChomsky("A:aC|DE|FG|HI|JK|LM|NO|PB", -7, "A:DE A:FG A:HI A:JK A:LM A:NO A:PB A:aC");
        dueChomsky("A:aC|DE|FG|HI|JK|LM|NO|PA", 9, "A:BC A:DE A:FG A:HI A:JK A:LM A:NO A:PA B:a");
        String large = "A:B;C:B;D:B;E:B;B:a|b|c|d|e|f|g|h|aA|aB|aC;P:a|b|c|d";
        GrammarReshaper tool = Check.loaded(large);
        Check.due("23 before 60", tool.removeUnits(), 59);
        Check.due("23 60 productions", tool.toChomsky(), 60);
        tool = Check.loaded(large + "|e");
        Check.due("23 before 61", tool.removeUnits(), 60);
        long digest = tool.digest();
        Check.due("23 61 productions", tool.toChomsky(), -7);
        Check.due("23 not changed", tool.digest(), digest);
    }

    private static void dueRecursion(String grammar, int count, String left) {
        GrammarReshaper tool = Check.loaded(grammar);
        Check.due("24 removeLeftRecursion of " + grammar, tool.removeLeftRecursion(), count);
        Check.due("24 what is left of " + grammar, Check.grammarOf(tool), left);
    }

    private static void removeLeftRecursion() {
        dueRecursion("A:Ab|a", 4, "A:a A:aB B:b B:bB");
        dueRecursion("A:aA|a", 2, "A:a A:aA");
        dueRecursion("A:Ba|a;B:Ab|b", 8, "A:Ba A:a B:ab B:abC B:b B:bC C:ab C:abC");
        // The new nonterminal is not treated itself.
        dueRecursion("A:AA|a", 4, "A:a A:aB B:A B:AB");
        // Nothing is left of A, so B loses what begins with it.
        dueRecursion("A:Aa;B:Ab|c", 3, "B:c C:a C:aC");
        // B is not in use any more when D needs a free nonterminal.
        dueRecursion("A:a;B:Bb;D:Dd|d", 7, "A:a B:d B:dB C:b C:bC D:d D:dB");
        // C has no productions, so it is no left side and stays where it is.
        dueRecursion("A:Ca;B:A|Cb", 3, "A:Ca B:Ca B:Cb");
        dueRecursion("A:B|a;B:C;C:c", 4, "A:B A:a B:C C:c");
        dueRecursion("A:a|", -8, "A: A:a");
        dueRecursion("A:Aa;P:", -8, "A:Aa P:");
        dueRecursion("A:A|a", -8, "A:A A:a");
        dueRecursion("A:a;B:C;C:D;D:B", -8, "A:a B:C C:D D:B");
        Check.due("24 none", new GrammarReshaper().removeLeftRecursion(), 0);
    }

    private static void removeLeftRecursionLimits() {
        dueRecursion("A:Abbbbbbb|a", 4, "A:a A:aB B:bbbbbbb B:bbbbbbbB");
        dueRecursion("A:Aa|bbbbbbb", 4, "A:bbbbbbb A:bbbbbbbB B:a B:aB");
        dueRecursion("A:Aa|bbbbbbbb", -7, "A:Aa A:bbbbbbbb");
        dueRecursion("A:bbbb;B:Abbbb", 2, "A:bbbb B:bbbbbbbb");
        dueRecursion("A:bbbb;B:Abbbbb", -7, "A:bbbb B:Abbbbb");
        dueRecursion("A:Aa|BCDEFGH|IJKLMNO", 6, "A:BCDEFGH A:BCDEFGHP A:IJKLMNO A:IJKLMNOP P:a P:aP");
        dueRecursion("A:Aa|BCDEFGH|IJKLMN|OP", -7, "A:Aa A:BCDEFGH A:IJKLMN A:OP");
        String large = "A:B|Aa;C:B|Ca;D:B|Da;E:B|Ea;B:a|b|c|d|e;F:a|b|c|d|e|f|g";
        GrammarReshaper tool = Check.loaded(large);
        Check.due("24 before 60", tool.removeUnits(), 36);
        Check.due("24 60 productions", tool.removeLeftRecursion(), 60);
        tool = Check.loaded(large + "|h");
        Check.due("24 before 61", tool.removeUnits(), 37);
        Check.due("24 61 productions", tool.removeLeftRecursion(), -7);
        Check.due("24 not changed", tool.productionCount(), 37);
    }

    private static void dueFactors(String grammar, int count, String left) {
        GrammarReshaper tool = Check.loaded(grammar);
        Check.due("25 leftFactor of " + grammar, tool.leftFactor(), count);
        Check.due("25 what is left of " + grammar, Check.grammarOf(tool), left);
    }

    private static void leftFactor() {
        dueFactors("A:ab|ac|ad|b", 5, "A:aB A:b B:b B:c B:d");
        dueFactors("A:ab|abc", 3, "A:abB B: B:c");
        dueFactors("A:ab|abc|ad", 5, "A:aB B:bC B:d C: C:c");
        dueFactors("A:ab|ac|Ba|Bb", 6, "A:BC A:aD C:a C:b D:b D:c");
        dueFactors("A:A|AA|Ab", 4, "A:AB B: B:A B:b");
        dueFactors("A:|a;B:ab", 3, "A: A:a B:ab");
        dueFactors("B:ab|ac;A:ba|bb;C:c", 7, "A:bD B:aE C:c D:a D:b E:b E:c");
        dueFactors("A:aaaaaaaa|aaaaaaab", 3, "A:aaaaaaaB B:a B:b");
        dueFactors("A:aBCDEFGH|aIJKLMNO", 3, "A:aP P:BCDEFGH P:IJKLMNO");
        dueFactors("A:aBCDEFGH|aIJKLMNO|P", -7, "A:P A:aBCDEFGH A:aIJKLMNO");
        String large = "A:B;C:B;D:B;E:B;B:a|b|c|d|e|f|g|h|aA|aB|aC";
        GrammarReshaper tool = Check.loaded(large);
        Check.due("25 before 60", tool.removeUnits(), 55);
        Check.due("25 60 productions", tool.leftFactor(), 60);
        tool = Check.loaded(large + ";P:a");
        Check.due("25 before 61", tool.removeUnits(), 56);
        Check.due("25 61 productions", tool.leftFactor(), -7);
        Check.due("25 not changed", tool.productionCount(), 56);
    }

    private static void dueGreibach(String grammar, int count, String left) {
        GrammarReshaper tool = Check.loaded(grammar);
        Check.due("26 toGreibach of " + grammar, tool.toGreibach(), count);
        Check.due("26 what is left of " + grammar, Check.grammarOf(tool), left);
    }

    private static void toGreibach() {
        dueGreibach("A:AA|a", 5, "A:a A:aB B:a B:aB B:aBB");
        dueGreibach("A:ab|ba", 4, "A:aC A:bB B:a C:b");
        dueGreibach("A:aa", 2, "A:aB B:a");
        dueGreibach("A:Ba|b", 1, "A:b");
        dueGreibach("A:B", 0, "");
        dueGreibach("A:BA|c;B:CA|b;C:a", 6, "A:aAA A:bA A:c B:aA B:b C:a");
        dueGreibach("A:Ab|a", 4, "A:a A:aB B:b B:bB");
        dueGreibach("A:a|", -8, "A: A:a");
        dueGreibach("A:B;B:A", -8, "A:B B:A");
        Check.due("26 none", new GrammarReshaper().toGreibach(), 0);
    }

    private static void toGreibachLimits() {
        // D has no productions, but the step before it goes has a right side that is too long.
        dueGreibach("A:BCCCCCCC;B:Da", -7, "A:BCCCCCCC B:Da");
        dueGreibach("A:BCCCCCC;B:Da", 0, "");
        dueGreibach("A:aBCDEFGH|bIJKLMNO|cd", 4, "A:aBCDEFGH A:bIJKLMNO A:cP P:d");
        dueGreibach("A:aBCDEFGH|bIJKLMNO|cdP", -7, "A:aBCDEFGH A:bIJKLMNO A:cdP");
        String large = "A:B|Aa;C:B|Ca;D:B|Da;E:B|Ea;B:a|b|c|d|e;F:a|b|c|d|e|f|g";
        GrammarReshaper tool = Check.loaded(large);
        tool.removeUnits();
        Check.due("26 60 productions", tool.toGreibach(), 60);
        tool = Check.loaded(large + "|h");
        tool.removeUnits();
        Check.due("26 61 productions", tool.toGreibach(), -7);
        Check.due("26 not changed", tool.productionCount(), 37);
    }

    private static void saveAndRestore() {
        GrammarReshaper tool = Check.loaded("A:a|b");
        Check.due("28 restore of nothing", tool.restore(), -9);
        Check.due("28 not changed", Check.grammarOf(tool), "A:a A:b");
        Check.due("27 save", tool.save(), 2);
        Check.write(tool, "B:c");
        tool.load();
        Check.due("27 save keeps the grammar", Check.grammarOf(tool), "B:c");
        Check.write(tool, "xyz");
        Check.due("28 restore", tool.restore(), 2);
        Check.due("28 restored", Check.grammarOf(tool), "A:a A:b");
        Check.due("28 buffer after restore", tool.clearInput(), 3);
        tool.removeUseless();
        Check.write(tool, "A:Aa|a");
        tool.load();
        tool.removeLeftRecursion();
        Check.due("28 restore again", tool.restore(), 2);
        Check.due("28 restored again", Check.grammarOf(tool), "A:a A:b");
        Check.write(tool, "C:cc|c|");
        tool.load();
        Check.due("27 save again", tool.save(), 3);
        Check.due("28 restore the later one", tool.restore(), 3);
        Check.due("28 the later one", Check.grammarOf(tool), "C: C:c C:cc");
        GrammarReshaper empty = new GrammarReshaper();
        Check.due("27 save of no productions", empty.save(), 0);
        Check.due("28 restore of no productions", empty.restore(), 0);
    }

    private static void dueWords(String grammar, int none, int ones, int twos) {
        GrammarReshaper tool = Check.loaded(grammar);
        Check.due("29 length 0 of " + grammar, tool.countWords(0), none);
        Check.due("29 length 1 of " + grammar, tool.countWords(1), ones);
        Check.due("29 length 2 of " + grammar, tool.countWords(2), twos);
    }

    private static void countWords() {
        dueWords("A:aAb|", 1, 0, 1);
        dueWords("A:BB;B:a|b|c|d|e|f|g|h", 0, 0, 64);
        dueWords("A:BB;B:|a|b|c|d|e|f|g|h", 1, 8, 64);
        dueWords("A:BCB;B:;C:aa|b", 0, 1, 1);
        dueWords("A:AA|a|b", 0, 2, 4);
        dueWords("A:BC;B:hD|;D:;C:gg|", 1, 1, 1);
        dueWords("A:abc|Ba;B:Ca;C:a", 0, 0, 0);
        dueWords("B:a", 0, 0, 0);
        int[] wrong = {-1, 3, Integer.MIN_VALUE, Integer.MAX_VALUE};
        for (int length : wrong) {
            Check.due("29 length " + length, Check.loaded("A:a").countWords(length), -6);
        }
    }

    private static void countDifferences() {
        GrammarReshaper tool = Check.loaded("A:a|ab");
        Check.due("30 nothing saved", tool.countDifferences(0), -9);
        Check.due("30 wrong and nothing saved", tool.countDifferences(3), -6);
        tool.save();
        Check.due("30 same", tool.countDifferences(1), 0);
        Check.write(tool, "A:a|b|ba|");
        tool.load();
        Check.due("30 length 0", tool.countDifferences(0), 1);
        Check.due("30 length 1", tool.countDifferences(1), 1);
        Check.due("30 length 2", tool.countDifferences(2), 2);
        Check.due("30 grammar stays", Check.grammarOf(tool), "A: A:a A:b A:ba");
        Check.due("30 saved one stays", tool.restore(), 2);
        int[] wrong = {-1, 3, Integer.MIN_VALUE, Integer.MAX_VALUE};
        for (int length : wrong) {
            Check.due("30 length " + length, tool.countDifferences(length), -6);
        }
    }

    private static long hashOf(int... values) {
        long hash = 1811;
        for (int value : values) {
            hash = 31 * hash + value;
        }
        return hash;
    }

    private static void digest() {
        GrammarReshaper tool = new GrammarReshaper();
        Check.due("31 new object", tool.digest(), hashOf(0, 0, 0, 1, 0, 0, 256, 0, 0, 1, 1, 1, 0, 0, 0, -9, 0));
        tool.save();
        Check.due("31 saved", tool.digest(), hashOf(0, 0, 0, 1, 0, 0, 256, 0, 0, 1, 1, 1, 0, 0, 0, 0, 0));
        tool = Check.loaded("A:Ba|;B:Bb|c;P:P");
        tool.save();
        Check.write(tool, "~ ");
        long due = hashOf(5, 0, 'A', 2, 'A', 'B', 'a', 2, 'B', 'B', 'b', 1, 'B', 'c', 1, 'P', 'P',
            1, 3, 3, 2 + (1 << 15), 4, 256, 4, 3, 0, 0, 0, 1, 0, 1, 5, 2, '~', ' ');
        Check.due("31 all values", tool.digest(), due);
        Check.due("31 again", tool.digest(), due);
    }
}
