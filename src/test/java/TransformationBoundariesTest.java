/**
 * The sentences about transformations that name a boundary ('Transformations', 'Removing left
 * recursion', the free nonterminal, and promises 20 to 26), each with a test of its own.
 */
public final class TransformationBoundariesTest {
    /** Five nonterminals with eleven right sides each after removeUnits: 55 productions. */
    private static final String FIFTY_FIVE = "C:B;D:B;E:B;F:B;B:a|b|c|d|e|f|g|h|aa|ab|ac";
    /** The same without right sides that begin alike. */
    private static final String FIFTY_FIVE_APART = "C:B;D:B;E:B;F:B;B:a|b|c|d|e|f|g|h|AA|BB|CC";
    /** The same in Greibach normal form. */
    private static final String FIFTY_FIVE_GREIBACH = "C:B;D:B;E:B;F:B;B:a|b|c|d|e|f|g|h|aA|bB|cC";
    private static final int TOO_LARGE = GrammarReshaper.TOO_LARGE;
    private static final int NOT_ALLOWED = GrammarReshaper.NOT_ALLOWED;

    private enum Kind {
        USELESS, EMPTY, UNITS, CHOMSKY, RECURSION, FACTOR, GREIBACH
    }

    private TransformationBoundariesTest() {
    }

    public static void main(String[] args) {
        nothingToDo();
        fullGrammarStays();
        uselessOnBothSides();
        uselessByWhatIsLeft();
        uselessOfSixty();
        emptyLeftOut();
        emptyTooMany();
        emptyCountsTheSetOnly();
        unitsInSteps();
        unitsTooMany();
        unitsCountTheSetOnly();
        chomskyNotAllowed();
        chomskyLengths();
        chomskyTooManyProductions();
        chomskyFreeNonterminals();
        recursionNotAllowed();
        recursionOrder();
        recursionNewOnesAreNotTreated();
        recursionWithoutOtherProductions();
        recursionWithoutLeftSide();
        recursionTooLong();
        recursionTooLongInBetween();
        recursionTooManyProductions();
        recursionTooManyInBetween();
        recursionCountsTheSetOnly();
        recursionFreeNonterminals();
        factorPrefixes();
        factorTooManyProductions();
        factorFreeNonterminals();
        greibachNotAllowed();
        greibachRemovesDeadOnes();
        greibachTooLong();
        greibachTooManyProductions();
        greibachFreeNonterminals();
        freeNonterminalIsTheFirst();
        lettersOutOfUseAreFreeAgain();
        freeNonterminalIsNeverA();
        notAllowedComesBeforeTooLarge();
        Check.finish();
    }

    private static int apply(Kind kind, GrammarReshaper tool) {
        return switch (kind) {
            case USELESS -> tool.removeUseless();
            case EMPTY -> tool.removeEmpty();
            case UNITS -> tool.removeUnits();
            case CHOMSKY -> tool.toChomsky();
            case RECURSION -> tool.removeLeftRecursion();
            case FACTOR -> tool.leftFactor();
            case GREIBACH -> tool.toGreibach();
        };
    }

    private static void due(Kind kind, GrammarReshaper tool, int answer, String grammar) {
        String what = kind + " of " + Check.grammarOf(tool);
        Check.due(what, apply(kind, tool), answer);
        Check.due("grammar after " + what, Check.grammarOf(tool), grammar);
    }

    private static void due(Kind kind, String text, int answer, String grammar) {
        due(kind, Check.loaded(text), answer, grammar);
    }

    private static void dueCount(Kind kind, GrammarReshaper tool, int count) {
        String what = kind + " of " + Check.grammarOf(tool);
        Check.due(what, apply(kind, tool), count);
        Check.due("productions after " + what, tool.productionCount(), count);
    }

    /** Refused: with a saved grammar and text in the buffer, so that it is seen if they change. */
    private static void refused(Kind kind, GrammarReshaper tool, int error) {
        tool.save();
        Check.write(tool, "A:|~");
        Check.refused(kind + " of " + Check.grammarOf(tool), tool, () -> apply(kind, tool), error);
        String grammar = Check.grammarOf(tool);
        tool.restore();
        Check.due("saved one after " + kind, Check.grammarOf(tool), grammar);
    }

    private static void refused(Kind kind, String text, int error) {
        refused(kind, Check.loaded(text), error);
    }

    private static GrammarReshaper larger(String more, int productions) {
        return Check.withoutUnits(FIFTY_FIVE + more, productions);
    }

    private static GrammarReshaper largerApart(String more, int productions) {
        return Check.withoutUnits(FIFTY_FIVE_APART + more, productions);
    }

    // 'Otherwise the copy replaces the grammar': the same one if no step changes anything
    private static void nothingToDo() {
        for (Kind kind : Kind.values()) {
            due(kind, new GrammarReshaper(), 0, "");
            due(kind, "A:a", kind == Kind.USELESS ? 0 : 1, "A:a");
            due(kind, "A:a|b|hAA", kind == Kind.USELESS ? 0 : kind == Kind.CHOMSKY ? 5 : 3,
                kind == Kind.CHOMSKY ? "A:BC A:a A:b B:h C:AA" : "A:a A:b A:hAA");
        }
    }

    // 'If after some step the copy has more than 60 productions': not with 60 of them
    private static void fullGrammarStays() {
        String more = ";A:a|b|c|d|e";
        String apart = Check.grammarOf(largerApart(more, 60));
        for (Kind kind : new Kind[] {Kind.EMPTY, Kind.UNITS, Kind.CHOMSKY, Kind.FACTOR}) {
            due(kind, largerApart(more, 60), 60, apart);
        }
        String greibach = Check.grammarOf(Check.withoutUnits(FIFTY_FIVE_GREIBACH + more, 60));
        for (Kind kind : new Kind[] {Kind.EMPTY, Kind.UNITS, Kind.RECURSION, Kind.GREIBACH}) {
            due(kind, Check.withoutUnits(FIFTY_FIVE_GREIBACH + more, 60), 60, greibach);
        }
        // G: G, which is looked for, would stand behind the 60th.
        dueCount(Kind.RECURSION, larger(";G:AA|AB|AC|AD|AE", 60), 60);
    }

    // 'in which a nonterminal that is not productive occurs (on the left or on the right)'
    private static void uselessOnBothSides() {
        due(Kind.USELESS, "A:a|B;B:B", 2, "A:a");
        due(Kind.USELESS, "A:a|aaaaaaaP", 1, "A:a");
        due(Kind.USELESS, "A:a;B:Bb", 1, "A:a");
        due(Kind.USELESS, "A:A", 1, "");
        due(Kind.USELESS, "A:", 0, "A:");
        due(Kind.USELESS, "A:B;B:", 0, "A:B B:");
    }

    // 'and then, in a second step, all productions whose left side is not reachable by the productions that are left'
    private static void uselessByWhatIsLeft() {
        due(Kind.USELESS, "A:a|BC;B:b", 2, "A:a");
        due(Kind.USELESS, "A:a;B:C;C:c", 2, "A:a");
        due(Kind.USELESS, "B:b;P:h", 2, "");
        due(Kind.USELESS, "A:P|BD;P:h;B:C;C:c", 3, "A:P P:h");
    }

    // 'Returns the number of removed productions'
    private static void uselessOfSixty() {
        dueUselessCount(Check.sixty(), 48, 12);
        dueUselessCount(larger(";A:CB|FED|a|b|c", 60), 0, 60);
        dueUselessCount(larger(";A:CB|FED|aP", 58), 1, 57);
        dueUselessCount(larger(";P:AAAA|a|b|c|d", 60), 60, 0);
    }

    private static void dueUselessCount(GrammarReshaper tool, int removed, int left) {
        Check.due("removeUseless", tool.removeUseless(), removed);
        Check.due("productions that are left", tool.productionCount(), left);
        Check.due("removeUseless again", tool.removeUseless(), 0);
    }

    // 'leaving out any (also none) of the occurrences .. except those whose right side would be empty'
    private static void emptyLeftOut() {
        due(Kind.EMPTY, "A:", 0, "");
        due(Kind.EMPTY, "A:A|", 1, "A:A");
        due(Kind.EMPTY, "A:BC;B:;C:", 3, "A:B A:BC A:C");
        due(Kind.EMPTY, "A:aB;B:", 2, "A:a A:aB");
        due(Kind.EMPTY, "A:BaB;B:", 4, "A:Ba A:BaB A:a A:aB");
        due(Kind.EMPTY, "A:aaaaaaaB;B:", 2, "A:aaaaaaa A:aaaaaaaB");
        due(Kind.EMPTY, "A:Baaaaaaa;B:", 2, "A:Baaaaaaa A:aaaaaaa");
        due(Kind.EMPTY, "A:BC;C:", 2, "A:B A:BC");
        due(Kind.EMPTY, "A:P;P:|h", 2, "A:P P:h");
        due(Kind.EMPTY, "A:BB;B:C;C:|c", 4, "A:B A:BB B:C C:c");
        GrammarReshaper tool = Check.loaded("A:aA|");
        Check.due("the empty word before", tool.countWords(0), 1);
        tool.removeEmpty();
        Check.due("the empty word is not derived any more", tool.countWords(0), 0);
    }

    // 'If after some step the copy has more than 60 productions': removeEmpty
    private static void emptyTooMany() {
        // 31 + 15 + 7 + 3 right sides from the long ones, and those of F.
        String large = "A:BCDEF;G:BCDE;H:BCD;I:BC;B:;C:;D:;E:;F:|a|b|c";
        dueCount(Kind.EMPTY, Check.loaded(large), 59);
        dueCount(Kind.EMPTY, Check.loaded(large + "|d"), 60);
        refused(Kind.EMPTY, large + "|d|e", TOO_LARGE);
        refused(Kind.EMPTY, "A:BCDEFGHI;B:;C:;D:;E:;F:;G:;H:;I:", TOO_LARGE);
        refused(Kind.EMPTY, "A:BCDEFG;B:;C:;D:;E:;F:;G:", TOO_LARGE);
        dueCount(Kind.EMPTY, Check.loaded("A:BCDEFa;B:;C:;D:;E:;F:"), 32);
    }

    // 'Only the set of productions after a step matters, not what is built within it'
    private static void emptyCountsTheSetOnly() {
        due(Kind.EMPTY, "A:BBBBBBBB;B:", 8, "A:B A:BB A:BBB A:BBBB A:BBBBB A:BBBBBB A:BBBBBBB A:BBBBBBBB");
        due(Kind.EMPTY, "A:BBBBBBBB|BBBBBBB|B;B:|b", 9, "A:B A:BB A:BBB A:BBBB A:BBBBB A:BBBBBB A:BBBBBBB A:BBBBBBBB B:b");
        // The 61st that is built is there already.
        dueCount(Kind.EMPTY, Check.loaded("A:BCDEF;G:BCDE;H:BCD;I:BB;B:;C:;D:;E:;F:|a|b|c|d|e"), 60);
        // With five empty productions the grammar is full; without them it has 55.
        GrammarReshaper tool = Check.withoutUnits("A:B;C:B;D:B;E:B;B:|a|b|c|d|e|f|g|h|aa|ab|ac", 60);
        dueCount(Kind.EMPTY, tool, 55);
    }

    // 'Y can be reached from X by zero or more unit productions'
    private static void unitsInSteps() {
        due(Kind.UNITS, "A:A", 0, "");
        due(Kind.UNITS, "A:B;B:A", 0, "");
        due(Kind.UNITS, "A:P;P:", 2, "A: P:");
        due(Kind.UNITS, "A:A|a", 1, "A:a");
        due(Kind.UNITS, "A:aaaaaaaP|PP|Pa|aP", 4, "A:PP A:Pa A:aP A:aaaaaaaP");
        GrammarReshaper tool = Check.loaded("A:B;B:C;C:D;D:E;E:F;F:G;G:H;H:I;I:J;J:K;K:L;L:M;M:N;N:O;O:a");
        dueCount(Kind.UNITS, tool, 15);
        Check.due("what A has from O", tool.symbol(0, 1), 'a');
        Check.due("what N has from O", tool.symbol(13, 1), 'a');
    }

    // 'If after some step the copy has more than 60 productions': removeUnits
    private static void unitsTooMany() {
        String large = "A:B;C:B;D:B;E:B;B:a|b|c|d|e|f|g|h|aa|ab|ac";
        dueCount(Kind.UNITS, Check.loaded(large), 55);
        dueCount(Kind.UNITS, Check.loaded(large + ";P:a|b|c|d"), 59);
        dueCount(Kind.UNITS, Check.loaded(large + ";P:a|b|c|d|e"), 60);
        refused(Kind.UNITS, large + ";P:a|b|c|d|e|f", TOO_LARGE);
        dueCount(Kind.UNITS, Check.loaded(large + "|ad"), 60);
        refused(Kind.UNITS, large + "|ad|ae", TOO_LARGE);
        refused(Kind.UNITS, "A:B;C:B;D:B;E:B;F:B;G:B;H:B;B:a|b|c|d|e|f|g|h", TOO_LARGE);
    }

    // 'Only the set of productions after a step matters, not what is built within it'
    private static void unitsCountTheSetOnly() {
        // A takes over the same eleven right sides from each of the others.
        dueCount(Kind.UNITS, Check.loaded("A:B|C|D|E;C:B;D:B;E:B;B:a|b|c|d|e|f|g|h|aa|ab|ac|ad"), 60);
        dueCount(Kind.UNITS, Check.loaded("A:B|a|b|c;C:B|D|E;D:B;E:B;B:a|b|c|d|e|f|g|h|aa|ab|ac|ad"), 60);
        // The 61st that is built is there already.
        dueCount(Kind.UNITS, Check.loaded("A:B;C:B;D:B|a;E:B|D;B:a|b|c|d|e|f|g|h|aa|ab|ac|ad"), 60);
    }

    // 'NOT_ALLOWED if the grammar has an empty production or a unit production'
    private static void chomskyNotAllowed() {
        refused(Kind.CHOMSKY, "A:", NOT_ALLOWED);
        refused(Kind.CHOMSKY, "A:a;P:", NOT_ALLOWED);
        refused(Kind.CHOMSKY, "A:A", NOT_ALLOWED);
        refused(Kind.CHOMSKY, "A:a;P:O", NOT_ALLOWED);
        due(Kind.CHOMSKY, "A:a", 1, "A:a");
        due(Kind.CHOMSKY, "A:PO", 1, "A:PO");
    }

    // 'that occurs in a right side with two or more symbols'; 'a right side with more than two symbols'
    private static void chomskyLengths() {
        due(Kind.CHOMSKY, "A:h", 1, "A:h");
        due(Kind.CHOMSKY, "A:hh", 2, "A:BB B:h");
        due(Kind.CHOMSKY, "A:h|hA", 3, "A:BA A:h B:h");
        due(Kind.CHOMSKY, "A:AA", 1, "A:AA");
        due(Kind.CHOMSKY, "A:AAA", 2, "A:AB B:AA");
        due(Kind.CHOMSKY, "A:AAAAAAAA", 7, "A:AB B:AC C:AD D:AE E:AF F:AG G:AA");
        due(Kind.CHOMSKY, "A:BBB;B:AAA", 4, "A:BC B:AD C:BB D:AA");
        due(Kind.CHOMSKY, "A:AAAA|BBB", 5, "A:AC A:BD C:AE D:BB E:AA");
        due(Kind.CHOMSKY, "A:ha", 3, "A:CB B:a C:h");
        due(Kind.CHOMSKY, "A:hhhhhhhh", 8, "A:BC B:h C:BD D:BE E:BF F:BG G:BH H:BB");
    }

    // 'If after some step the copy has more than 60 productions': toChomsky, in both parts
    private static void chomskyTooManyProductions() {
        dueCount(Kind.CHOMSKY, largerApart(";A:a|b|c|AAA", 59), 60);
        refused(Kind.CHOMSKY, largerApart(";A:a|b|c|d|AAA", 60), TOO_LARGE);
        dueCount(Kind.CHOMSKY, largerApart(";A:a|b|c|hA", 59), 60);
        refused(Kind.CHOMSKY, largerApart(";A:a|b|c|d|hA", 60), TOO_LARGE);
        dueCount(Kind.CHOMSKY, largerApart(";A:a|b|hAA", 58), 60);
        refused(Kind.CHOMSKY, largerApart(";A:a|b|c|hAA", 59), TOO_LARGE);
    }

    // 'or if a free nonterminal is needed and there is none'
    private static void chomskyFreeNonterminals() {
        due(Kind.CHOMSKY, "A:BC|DE|FG|HI|JK|LM|NO|PA", 8, "A:BC A:DE A:FG A:HI A:JK A:LM A:NO A:PA");
        due(Kind.CHOMSKY, "A:BC|DE|FG|HI|JK|LM|NO|AAA", 9, "A:AP A:BC A:DE A:FG A:HI A:JK A:LM A:NO P:AA");
        refused(Kind.CHOMSKY, "A:BC|DE|FG|HI|JK|LM|NO|PAA", TOO_LARGE);
        refused(Kind.CHOMSKY, "A:BC|DE|FG|HI|JK|LM|NO|AAAA", TOO_LARGE);
        due(Kind.CHOMSKY, "A:BC|DE|FG|HI|JK|LM|NO|hh", 9, "A:BC A:DE A:FG A:HI A:JK A:LM A:NO A:PP P:h");
        refused(Kind.CHOMSKY, "A:BC|DE|FG|HI|JK|LM|NO|Ph", TOO_LARGE);
        refused(Kind.CHOMSKY, "A:BC|DE|FG|HI|JK|LM|NO|gh", TOO_LARGE);
        // Six, six and two steps use up C to P; a step more has no nonterminal.
        dueCount(Kind.CHOMSKY, Check.loaded("A:BBBBBBBB|ABBBBBBB|BBBB"), 17);
        refused(Kind.CHOMSKY, "A:BBBBBBBB|ABBBBBBB|BBBB|ABB", TOO_LARGE);
        // P is in use on the left side only.
        refused(Kind.CHOMSKY, "A:BC|DE|FG|HI|JK|LM|NO|hh;P:a", TOO_LARGE);
    }

    // 'NOT_ALLOWED if the grammar has an empty production, or if some nonterminal can be reached from
    // itself by one or more unit productions'
    private static void recursionNotAllowed() {
        dueEndless(Kind.RECURSION);
        due(Kind.RECURSION, "A:B;B:C;C:aA", 3, "A:B B:C C:aA");
        due(Kind.RECURSION, "A:B|a;P:A", 4, "A:B A:a P:B P:a");
    }

    private static void dueEndless(Kind kind) {
        refused(kind, "A:", NOT_ALLOWED);
        refused(kind, "A:a;P:", NOT_ALLOWED);
        refused(kind, "A:A", NOT_ALLOWED);
        refused(kind, "A:a;P:P", NOT_ALLOWED);
        refused(kind, "A:a;O:P;P:O", NOT_ALLOWED);
        refused(kind, "A:B;B:C;C:D;D:E;E:F;F:G;G:H;H:I;I:J;J:K;K:L;L:M;M:N;N:O;O:A", NOT_ALLOWED);
    }

    // 'there is first a step for each Xj with j less than i, in ascending order of j'
    private static void recursionOrder() {
        due(Kind.RECURSION, "A:a;B:Ab", 2, "A:a B:ab");
        due(Kind.RECURSION, "A:Ba;B:b", 2, "A:Ba B:b");
        due(Kind.RECURSION, "A:a;P:A", 2, "A:a P:a");
        // A first, then B: what comes from A begins with B and is replaced in turn.
        due(Kind.RECURSION, "A:Ba;B:b;C:Ac", 3, "A:Ba B:b C:bac");
        // What comes from B begins with A no more, since A has been put in there before.
        due(Kind.RECURSION, "A:a;B:Ab;C:Bc|Ac", 4, "A:a B:ab C:abc C:ac");
        due(Kind.RECURSION, "O:Pa|a;P:Ob|b", 8, "B:ab B:abB O:Pa O:a P:ab P:abB P:b P:bB");
    }

    // 'They are treated in this order; nonterminals that come into use on the way are not'
    private static void recursionNewOnesAreNotTreated() {
        due(Kind.RECURSION, "A:AA|a", 4, "A:a A:aB B:A B:AB");
        due(Kind.RECURSION, "A:AAA|a", 4, "A:a A:aB B:AA B:AAB");
        due(Kind.RECURSION, "A:Ab|a;C:c", 5, "A:a A:aB B:b B:bB C:c");
    }

    // 'if there are productions Xi: Xi v .. these are replaced'; those of Xi that do not begin with Xi may be missing
    private static void recursionWithoutOtherProductions() {
        due(Kind.RECURSION, "A:Aa", 2, "B:a B:aB");
        due(Kind.RECURSION, "A:Aa|Ab", 4, "B:a B:aB B:b B:bB");
        due(Kind.RECURSION, "A:Aa;B:Ab", 2, "C:a C:aC");
        due(Kind.RECURSION, "P:Pa", 2, "B:a B:aB");
    }

    // 'Let X1, X2, .. be the left sides of the grammar': what has no productions is none of them, not even A
    private static void recursionWithoutLeftSide() {
        due(Kind.RECURSION, "B:Ab|c", 2, "B:Ab B:c");
        due(Kind.RECURSION, "A:Cb|c;B:A|Ca", 5, "A:Cb A:c B:Ca B:Cb B:c");
        due(Kind.RECURSION, "A:Pb;P:h;O:Na|P", 4, "A:Pb O:Na O:P P:h");
    }

    // 'or a right side with more than 8 symbols'
    private static void recursionTooLong() {
        due(Kind.RECURSION, "A:bbbb;B:Abbbb", 2, "A:bbbb B:bbbbbbbb");
        refused(Kind.RECURSION, "A:bbbbb;B:Abbbb", TOO_LARGE);
        due(Kind.RECURSION, "A:b;B:Abbbbbbb", 2, "A:b B:bbbbbbbb");
        refused(Kind.RECURSION, "A:bb;B:Abbbbbbb", TOO_LARGE);
        due(Kind.RECURSION, "A:bbbbbbbb;B:A", 2, "A:bbbbbbbb B:bbbbbbbb");
        due(Kind.RECURSION, "A:Aa|bbbbbbb", 4, "A:bbbbbbb A:bbbbbbbB B:a B:aB");
        refused(Kind.RECURSION, "A:Aa|bbbbbbbb", TOO_LARGE);
        due(Kind.RECURSION, "A:Aabcdefg|a", 4, "A:a A:aB B:abcdefg B:abcdefgB");
        refused(Kind.RECURSION, "A:bbbbbbbb;B:Aa|b", TOO_LARGE);
    }

    // 'If after some step ..': even if a later step would remove what is too long
    private static void recursionTooLongInBetween() {
        due(Kind.RECURSION, "A:Baaa;B:Bb;C:Acccc", 3, "A:Baaa D:b D:bD");
        refused(Kind.RECURSION, "A:Baaa;B:Bb;C:Accccc", TOO_LARGE);
    }

    // 'If after some step the copy has more than 60 productions': removeLeftRecursion, in both steps
    private static void recursionTooManyProductions() {
        // The step for A makes two productions more.
        dueCount(Kind.RECURSION, larger(";A:Aa|a", 57), 59);
        dueCount(Kind.RECURSION, larger(";A:Aa|a;G:a", 58), 60);
        refused(Kind.RECURSION, larger(";A:Aa|a;G:a|b", 59), TOO_LARGE);
        // The step for G with A makes one production more.
        dueCount(Kind.RECURSION, larger(";A:a|b;G:Ab|a", 59), 60);
        refused(Kind.RECURSION, larger(";A:a|b;G:Ab|a|b", 60), TOO_LARGE);
    }

    // 'If after some step ..': even if later steps would leave fewer
    private static void recursionTooManyInBetween() {
        // The step for A makes one production more; then G loses three, since A has none.
        dueCount(Kind.RECURSION, larger(";A:Aa;G:Ab|Ac|Ad", 59), 57);
        refused(Kind.RECURSION, larger(";A:Aa;G:Ab|Ac|Ad|a", 60), TOO_LARGE);
    }

    // 'Only the set of productions after a step matters, not what is built within it'
    private static void recursionCountsTheSetOnly() {
        dueCount(Kind.RECURSION, larger(";A:a;G:Ab|a|b|c", 60), 60);
        dueCount(Kind.RECURSION, larger(";A:a|b;G:Ab|ab|a", 60), 60);
        dueCount(Kind.RECURSION, larger(";A:a|b;G:Ab|bb|a", 60), 60);
        dueCount(Kind.RECURSION, larger(";A:a;G:Ab|ab|a|b", 60), 59);
    }

    // 'let Z be the free nonterminal'; 'if a free nonterminal is needed and there is none'
    private static void recursionFreeNonterminals() {
        due(Kind.RECURSION, "A:Aa|BCDEFGH|IJKLMNO", 6, "A:BCDEFGH A:BCDEFGHP A:IJKLMNO A:IJKLMNOP P:a P:aP");
        refused(Kind.RECURSION, "A:Aa|BCDEFGH|IJKLMNO|P", TOO_LARGE);
        refused(Kind.RECURSION, "A:Aa|BCDEFGH|IJKLMNO;P:h", TOO_LARGE);
        due(Kind.RECURSION, "A:aA|BCDEFGH|IJKLMNO|P", 4, "A:BCDEFGH A:IJKLMNO A:P A:aA");
        // One is free, but A and B need one each.
        refused(Kind.RECURSION, "A:Aa|CDEFGHI|JKLMNO;B:Bb|b", TOO_LARGE);
        due(Kind.RECURSION, "A:Aa|CDEFGHI|JKLMN;B:Bb|b", 10,
            "A:CDEFGHI A:CDEFGHIO A:JKLMN A:JKLMNO B:b B:bP O:a O:aO P:b P:bP");
    }

    // 'As long as there are two productions with the same left side whose right sides begin with the same symbol'
    private static void factorPrefixes() {
        due(Kind.FACTOR, "A:a|b", 2, "A:a A:b");
        due(Kind.FACTOR, "A:a|aa", 3, "A:aB B: B:a");
        due(Kind.FACTOR, "A:|a", 2, "A: A:a");
        due(Kind.FACTOR, "A:a;B:a", 2, "A:a B:a");
        due(Kind.FACTOR, "P:ha|hb", 3, "B:a B:b P:hB");
        due(Kind.FACTOR, "A:aaaaaaaa|aaaaaaa", 3, "A:aaaaaaaB B: B:a");
        due(Kind.FACTOR, "A:aaaaaaaa|aaaaaaab", 3, "A:aaaaaaaB B:a B:b");
        due(Kind.FACTOR, "A:aaaaaaaa|abbbbbbb", 3, "A:aB B:aaaaaaa B:bbbbbbb");
        due(Kind.FACTOR, "A:aaaaaaaa|aaaaaaab|b|aaa", 6, "A:aaaB A:b B: B:aaaaC C:a C:b");
        // What all of them share, not the first two.
        due(Kind.FACTOR, "A:ab|abc|ad", 5, "A:aB B:bC B:d C: C:c");
        due(Kind.FACTOR, "A:ab|ac|acd", 5, "A:aB B:b B:cC C: C:d");
        due(Kind.FACTOR, "A:ha|hb|PA|PB", 6, "A:PC A:hD C:A C:B D:a D:b");
    }

    // 'If after some step the copy has more than 60 productions': leftFactor
    private static void factorTooManyProductions() {
        dueCount(Kind.FACTOR, largerApart(";A:a|b|ca|cb", 59), 60);
        refused(Kind.FACTOR, largerApart(";A:a|b|c|da|db", 60), TOO_LARGE);
        dueCount(Kind.FACTOR, largerApart(";A:a|b|c|d|e", 60), 60);
        dueCount(Kind.FACTOR, largerApart(";A:a|b|c|d|ea", 60), 60);
        // Each of the five nonterminals makes one production more.
        dueCount(Kind.FACTOR, larger("", 55), 60);
        refused(Kind.FACTOR, larger(";P:a", 56), TOO_LARGE);
    }

    // 'or if a free nonterminal is needed and there is none': leftFactor
    private static void factorFreeNonterminals() {
        due(Kind.FACTOR, "A:aBCDEFGH|aIJKLMNO", 3, "A:aP P:BCDEFGH P:IJKLMNO");
        refused(Kind.FACTOR, "A:aBCDEFGH|aIJKLMNO|P", TOO_LARGE);
        refused(Kind.FACTOR, "A:aBCDEFGH|aIJKLMNO;P:", TOO_LARGE);
        refused(Kind.FACTOR, "A:aBCDEFGH|aIJKLMNO|ba|bb", TOO_LARGE);
        due(Kind.FACTOR, "A:aBCDEFGH|bIJKLMNO|P", 3, "A:P A:aBCDEFGH A:bIJKLMNO");
    }

    // 'NOT_ALLOWED as for removeLeftRecursion'
    private static void greibachNotAllowed() {
        dueEndless(Kind.GREIBACH);
        due(Kind.GREIBACH, "A:B;B:C;C:aA", 3, "A:aA B:aA C:aA");
    }

    // '(it is just removed if there are none)'
    private static void greibachRemovesDeadOnes() {
        due(Kind.GREIBACH, "A:B", 0, "");
        due(Kind.GREIBACH, "A:Pa|a", 1, "A:a");
        due(Kind.GREIBACH, "A:B;B:P", 0, "");
        due(Kind.GREIBACH, "A:aP", 1, "A:aP");
        due(Kind.GREIBACH, "A:Aa", 2, "B:a B:aB");
    }

    // 'or a right side with more than 8 symbols': toGreibach
    private static void greibachTooLong() {
        due(Kind.GREIBACH, "A:BCCCC;B:bCCC", 2, "A:bCCCCCCC B:bCCC");
        refused(Kind.GREIBACH, "A:BCCCC;B:bCCCC", TOO_LARGE);
        due(Kind.GREIBACH, "A:BCCCCCCC;B:b", 2, "A:bCCCCCCC B:b");
        refused(Kind.GREIBACH, "A:BCCCCCCC;B:bC", TOO_LARGE);
        due(Kind.GREIBACH, "A:B;B:bCCCCCCC", 2, "A:bCCCCCCC B:bCCCCCCC");
        // It would be removed a step later, since P has no productions.
        refused(Kind.GREIBACH, "A:BCCCCCCC;B:Pa", TOO_LARGE);
        due(Kind.GREIBACH, "A:BCCCCCC;B:Pa", 0, "");
        refused(Kind.GREIBACH, "A:Aa|bCCCCCCC", TOO_LARGE);
        // A has lost its production when D: A c c c c is replaced.
        due(Kind.GREIBACH, "A:Bccccc;C:CAcccc|c", 2, "C:c C:cD");
    }

    // 'If after some step the copy has more than 60 productions': toGreibach
    private static void greibachTooManyProductions() {
        // A: BB gets the eleven right sides of B.
        dueCount(Kind.GREIBACH, Check.withoutUnits("C:B;D:B;E:B;B:a|b|c|d|e|f|g|h|aA|bB|cC;A:BB|a|b|c|d|e", 50), 60);
        refused(Kind.GREIBACH, Check.withoutUnits("C:B;D:B;E:B;B:a|b|c|d|e|f|g|h|aA|bB|cC;A:BB|a|b|c|d|e|f", 51), TOO_LARGE);
        // h gets a nonterminal.
        dueCount(Kind.GREIBACH, Check.withoutUnits(FIFTY_FIVE_GREIBACH + ";A:a|b|c|dh", 59), 60);
        refused(Kind.GREIBACH, Check.withoutUnits(FIFTY_FIVE_GREIBACH + ";A:a|b|c|d|eh", 60), TOO_LARGE);
        // One for one.
        dueCount(Kind.GREIBACH, Check.withoutUnits(FIFTY_FIVE_GREIBACH + ";G:a;A:GG|a|b|c", 60), 60);
        // Two for one, of which one is there already.
        dueCount(Kind.GREIBACH, Check.withoutUnits(FIFTY_FIVE_GREIBACH + ";G:a|b;A:GG|bG|a", 60), 60);
        dueCount(Kind.GREIBACH, Check.withoutUnits(FIFTY_FIVE_GREIBACH + ";G:a|b;A:GG|aG|a", 60), 60);
        refused(Kind.GREIBACH, Check.withoutUnits(FIFTY_FIVE_GREIBACH + ";G:a|b;A:GG|hG|a", 60), TOO_LARGE);
        dueCount(Kind.GREIBACH, Check.withoutUnits(FIFTY_FIVE_GREIBACH + ";A:OO|a|b|c|d", 60), 59);
    }

    // 'or if a free nonterminal is needed and there is none': toGreibach
    private static void greibachFreeNonterminals() {
        due(Kind.GREIBACH, "A:aBCDEFGH|bIJKLMNO|cd", 4, "A:aBCDEFGH A:bIJKLMNO A:cP P:d");
        refused(Kind.GREIBACH, "A:aBCDEFGH|bIJKLMNO|cdP", TOO_LARGE);
        refused(Kind.GREIBACH, "A:aBCDEFGH|bIJKLMNO|cde", TOO_LARGE);
        refused(Kind.GREIBACH, "A:aBCDEFGH|bIJKLMNO|cd;P:h", TOO_LARGE);
        due(Kind.GREIBACH, "A:aBCDEFGH|bIJKLMNO|P", 2, "A:aBCDEFGH A:bIJKLMNO");
        refused(Kind.GREIBACH, "A:AP|aBCDEFGH|bIJKLMNO", TOO_LARGE);
        // Only terminals behind the beginning need a nonterminal.
        due(Kind.GREIBACH, "A:abcdefgh", 8, "A:aBCDEFGH B:b C:c D:d E:e F:f G:g H:h");
        due(Kind.GREIBACH, "A:a|b|c|d|e|f|g|h", 8, "A:a A:b A:c A:d A:e A:f A:g A:h");
        due(Kind.GREIBACH, "A:aa|a", 3, "A:a A:aB B:a");
    }

    // 'The free nonterminal is the first letter from A to P that is not in use'
    private static void freeNonterminalIsTheFirst() {
        due(Kind.CHOMSKY, "A:hA;C:c", 3, "A:BA B:h C:c");
        due(Kind.CHOMSKY, "A:hA;B:b;D:d", 4, "A:CA B:b C:h D:d");
        // In use on the left, in use on the right.
        due(Kind.CHOMSKY, "A:hA;B:b", 3, "A:CA B:b C:h");
        due(Kind.CHOMSKY, "A:hB", 2, "A:CB C:h");
        due(Kind.RECURSION, "A:Ah|C", 4, "A:C A:CB B:h B:hB");
        due(Kind.FACTOR, "A:aB|aC", 3, "A:aD D:B D:C");
        due(Kind.GREIBACH, "A:aaC", 2, "A:aBC B:a");
    }

    // 'A nonterminal is in use if it is A or occurs in some production': of the copy, as it is after the last step
    private static void lettersOutOfUseAreFreeAgain() {
        // B has lost its only production in its own step.
        due(Kind.RECURSION, "A:a;B:Bb;D:Dd|d", 7, "A:a B:d B:dB C:b C:bC D:d D:dB");
        // B still stands in A: B a, so it stays in use without a production.
        due(Kind.RECURSION, "A:Ba|a;B:Bb;D:Dd|d", 8, "A:Ba A:a C:b C:bC D:d D:dE E:d E:dE");
        // D: B c, the last B, goes in the step for D with B, before D needs a letter.
        due(Kind.RECURSION, "A:a;B:Bb;D:Bc|Dd|d", 7, "A:a B:d B:dB C:b C:bC D:d D:dB");
        // A is in use without a production, too.
        due(Kind.RECURSION, "A:Aa;C:Cc|c", 6, "B:a B:aB C:c C:cD D:c D:cD");
        // 'nonterminals that come into use on the way are not': B, once more in use, keeps B: A and B: A B.
        due(Kind.RECURSION, "A:a;B:Bb;D:DA|d", 7, "A:a B:A B:AB C:b C:bC D:d D:dB");
        // Without a letter that is free again there would be none for P.
        due(Kind.RECURSION, "A:CDEFG|HIJKLMN;B:Bb;P:Pa|b", 8, "A:CDEFG A:HIJKLMN B:a B:aB O:b O:bO P:b P:bB");
        refused(Kind.RECURSION, "A:CDEFG|HIJKLMN|B;B:Bb;P:Pa|b", TOO_LARGE);
        // B goes out of use among the steps that make right sides begin with terminals.
        due(Kind.GREIBACH, "A:Ba|aa", 2, "A:aB B:a");
        due(Kind.GREIBACH, "A:Ba|aBa", 2, "A:aBC C:a");
    }

    // 'A nonterminal is in use if it is A or occurs in some production'
    private static void freeNonterminalIsNeverA() {
        due(Kind.CHOMSKY, "B:hh", 2, "B:CC C:h");
        due(Kind.CHOMSKY, "C:CCC", 2, "B:CC C:CB");
        due(Kind.RECURSION, "C:Ch|h", 4, "B:h B:hB C:h C:hB");
        due(Kind.FACTOR, "B:a|ab", 3, "B:aC C: C:b");
        due(Kind.GREIBACH, "B:hh", 2, "B:hC C:h");
        refused(Kind.FACTOR, "B:aBCDEFGH|aIJKLMNO|P", TOO_LARGE);
    }

    // 'If several errors apply, the one that is listed first is returned'
    private static void notAllowedComesBeforeTooLarge() {
        refused(Kind.CHOMSKY, "A:BC|DE|FG|HI|JK|LM|NO|PAA|", NOT_ALLOWED);
        refused(Kind.CHOMSKY, "A:BC|DE|FG|HI|JK|LM|NO|PAA|A", NOT_ALLOWED);
        refused(Kind.RECURSION, "A:Aa|bbbbbbbb|", NOT_ALLOWED);
        refused(Kind.RECURSION, "A:Aa|bbbbbbbb;P:P", NOT_ALLOWED);
        refused(Kind.GREIBACH, "A:aBCDEFGH|bIJKLMNO|cdP|", NOT_ALLOWED);
        refused(Kind.GREIBACH, "A:aBCDEFGH|bIJKLMNO|cdP;P:P", NOT_ALLOWED);
    }
}
