import java.util.Arrays;

/**
 * Rewrites context-free grammars: removes useless symbols, empty productions, unit productions and
 * left recursion, factors common prefixes, and builds Chomsky and Greibach normal forms.
 */
public final class GrammarReshaper {
    public static final int NONE = -1;
    public static final int BAD_CHARACTER = -2, BUFFER_FULL = -3, INVALID_INPUT = -4, NO_SUCH_PRODUCTION = -5, OUT_OF_RANGE = -6, TOO_LARGE = -7, NOT_ALLOWED = -8, NOTHING_SAVED = -9;

    // A symbol is held as 0 to 15 for A to P and 16 to 23 for a to h, so its number is its rank.
    private static final int NONTERMINALS = 16;
    private static final int TERMINALS = 8;
    private static final int SYMBOLS = NONTERMINALS + TERMINALS;
    private static final int NO_SYMBOL = -1;
    private static final int START = 0;
    private static final int ALL_NONTERMINALS = (1 << NONTERMINALS) - 1;
    private static final int ALL_TERMINALS = ((1 << TERMINALS) - 1) << NONTERMINALS;
    private static final int END_MARKER = 1 << TERMINALS;
    private static final int LONGEST_COUNTED = 2;
    private static final long FIRST_HASH = 1811;

    private final InputText input;
    private final Grammar grammar;
    private final Grammar saved;
    private boolean hasSaved;
    private final Arrows arrows;
    private final Analysis analysis;
    private final Parser parser;
    private final ShortWords shortWords;
    private final Transformer transformer;

    public GrammarReshaper() {
        input = new InputText();
        grammar = new Grammar();
        saved = new Grammar();
        hasSaved = false;
        arrows = new Arrows();
        analysis = new Analysis();
        parser = new Parser();
        shortWords = new ShortWords();
        transformer = new Transformer();
    }

    // ---- input

    public int append(int code) {
        if (code < 32 || code > 126) {
            return BAD_CHARACTER;
        }
        return input.put(code) ? input.length() : BUFFER_FULL;
    }

    public int clearInput() {
        int length = input.length();
        input.clear();
        return length;
    }

    public int firstError() {
        return input.errorPlace();
    }

    public int load() {
        if (!input.isGrammar()) {
            return INVALID_INPUT;
        }
        input.readInto(grammar);
        input.clear();
        return grammar.count();
    }

    public int accepts() {
        if (!input.isWord()) {
            return INVALID_INPUT;
        }
        parser.read(input);
        return bit(parser.derives(grammar));
    }

    public long countTrees() {
        if (!input.isWord()) {
            return INVALID_INPUT;
        }
        if (isEndless()) {
            return NOT_ALLOWED;
        }
        parser.read(input);
        return parser.treesOf(grammar);
    }

    // ---- productions

    public int productionCount() {
        return grammar.count();
    }

    public int symbol(int production, int index) {
        if (production < 0 || production >= grammar.count()) {
            return NO_SUCH_PRODUCTION;
        }
        long chosen = grammar.at(production);
        if (index < 0 || index > Production.length(chosen)) {
            return NONE;
        }
        return codeOf(index == 0 ? Production.left(chosen) : Production.symbolAt(chosen, index - 1));
    }

    // ---- properties; sets of nonterminals are bit masks with bit 0 for A, sets of terminals with bit 0 for a

    public int nullableSet() {
        return grammar.nullable();
    }

    public int productiveSet() {
        return grammar.productive();
    }

    public int reachableSet() {
        arrows.followOccurrences(grammar);
        return arrows.reachFrom(START);
    }

    public int leftRecursiveSet() {
        arrows.followLeftEnds(grammar, grammar.nullable());
        return arrows.loops();
    }

    public int unitReach(int nonterminal) {
        if (!isNonterminal(nonterminal)) {
            return OUT_OF_RANGE;
        }
        arrows.followUnits(grammar);
        return arrows.reachFrom(nonterminal);
    }

    public int firstSet(int nonterminal) {
        if (!isNonterminal(nonterminal)) {
            return OUT_OF_RANGE;
        }
        analysis.study(grammar);
        return analysis.firstOf(nonterminal);
    }

    public int followSet(int nonterminal) {
        if (!isNonterminal(nonterminal)) {
            return OUT_OF_RANGE;
        }
        analysis.study(grammar);
        return analysis.followOf(nonterminal);
    }

    public int isLl1() {
        analysis.study(grammar);
        return bit(analysis.hasDistinctLookaheads(grammar));
    }

    public int isChomsky() {
        for (int i = 0; i < grammar.count(); i++) {
            if (!Production.fitsChomsky(grammar.at(i))) {
                return 0;
            }
        }
        return 1;
    }

    public int isGreibach() {
        for (int i = 0; i < grammar.count(); i++) {
            if (!Production.fitsGreibach(grammar.at(i))) {
                return 0;
            }
        }
        return 1;
    }

    // ---- transformations

    public int removeUseless() {
        int before = grammar.count();
        transformer.begin(grammar);
        transformer.dropUseless(arrows);
        transformer.finish(grammar);
        return before - grammar.count();
    }

    public int removeEmpty() {
        transformer.begin(grammar);
        transformer.dropEmpty();
        return transformer.finish(grammar);
    }

    public int removeUnits() {
        transformer.begin(grammar);
        transformer.dropUnits(arrows);
        return transformer.finish(grammar);
    }

    public int toChomsky() {
        if (grammar.hasEmpty() || grammar.hasUnit()) {
            return NOT_ALLOWED;
        }
        transformer.begin(grammar);
        transformer.nameTerminals(0);
        transformer.splitLong();
        return transformer.finish(grammar);
    }

    public int removeLeftRecursion() {
        if (isEndless()) {
            return NOT_ALLOWED;
        }
        transformer.begin(grammar);
        transformer.dropLeftRecursion();
        return transformer.finish(grammar);
    }

    public int leftFactor() {
        transformer.begin(grammar);
        transformer.factorPrefixes();
        return transformer.finish(grammar);
    }

    public int toGreibach() {
        if (isEndless()) {
            return NOT_ALLOWED;
        }
        transformer.begin(grammar);
        transformer.dropLeftRecursion();
        transformer.expandLeftEnds();
        transformer.nameTerminals(1);
        return transformer.finish(grammar);
    }

    // ---- comparing

    public int save() {
        saved.copyFrom(grammar);
        hasSaved = true;
        return saved.count();
    }

    public int restore() {
        if (!hasSaved) {
            return NOTHING_SAVED;
        }
        grammar.copyFrom(saved);
        return grammar.count();
    }

    public int countWords(int length) {
        if (length < 0 || length > LONGEST_COUNTED) {
            return OUT_OF_RANGE;
        }
        shortWords.study(grammar);
        return Long.bitCount(shortWords.ofLength(length));
    }

    public int countDifferences(int length) {
        if (length < 0 || length > LONGEST_COUNTED) {
            return OUT_OF_RANGE;
        }
        if (!hasSaved) {
            return NOTHING_SAVED;
        }
        shortWords.study(grammar);
        long current = shortWords.ofLength(length);
        shortWords.study(saved);
        return Long.bitCount(current ^ shortWords.ofLength(length));
    }

    public long digest() {
        analysis.study(grammar);
        long hash = hashOfProperties(hashOfProductions(FIRST_HASH));
        shortWords.study(grammar);
        for (int length = 0; length <= LONGEST_COUNTED; length++) {
            hash = mixed(hash, Long.bitCount(shortWords.ofLength(length)));
        }
        hash = mixed(hash, hasSaved ? saved.count() : NOTHING_SAVED);
        hash = mixed(hash, input.length());
        for (int i = 0; i < input.length(); i++) {
            hash = mixed(hash, input.codeAt(i));
        }
        return hash;
    }

    private long hashOfProductions(long start) {
        long hash = mixed(start, grammar.count());
        for (int i = 0; i < grammar.count(); i++) {
            long production = grammar.at(i);
            int length = Production.length(production);
            hash = mixed(hash, length);
            hash = mixed(hash, codeOf(Production.left(production)));
            for (int k = 0; k < length; k++) {
                hash = mixed(hash, codeOf(Production.symbolAt(production, k)));
            }
        }
        return hash;
    }

    // Takes FIRST and FOLLOW sets from the analysis, which has studied the grammar before.
    private long hashOfProperties(long start) {
        long hash = mixed(start, nullableSet());
        hash = mixed(hash, productiveSet());
        hash = mixed(hash, reachableSet());
        hash = mixed(hash, leftRecursiveSet());
        for (int nonterminal = START; nonterminal <= START + 1; nonterminal++) {
            hash = mixed(hash, analysis.firstOf(nonterminal));
            hash = mixed(hash, analysis.followOf(nonterminal));
        }
        hash = mixed(hash, bit(analysis.hasDistinctLookaheads(grammar)));
        hash = mixed(hash, isChomsky());
        return mixed(hash, isGreibach());
    }

    private static long mixed(long hash, long value) {
        return 31 * hash + value;
    }

    // With an empty production or a circle of unit productions a word can have endlessly many trees.
    private boolean isEndless() {
        if (grammar.hasEmpty()) {
            return true;
        }
        arrows.followUnits(grammar);
        return arrows.loops() != 0;
    }

    private static int bit(boolean truth) {
        return truth ? 1 : 0;
    }

    private static boolean isNonterminal(int symbol) {
        return symbol >= 0 && symbol < NONTERMINALS;
    }

    private static boolean isTerminal(int symbol) {
        return symbol >= NONTERMINALS && symbol < SYMBOLS;
    }

    private static boolean isIn(int set, int symbol) {
        return symbol >= 0 && symbol < SYMBOLS && ((set >>> symbol) & 1) != 0;
    }

    private static int symbolOf(int code) {
        if (code >= 'A' && code < 'A' + NONTERMINALS) {
            return code - 'A';
        }
        if (code >= 'a' && code < 'a' + TERMINALS) {
            return code - 'a' + NONTERMINALS;
        }
        return NO_SYMBOL;
    }

    private static int codeOf(int symbol) {
        return isNonterminal(symbol) ? 'A' + symbol : 'a' + symbol - NONTERMINALS;
    }

    /**
     * A production is packed into one long, so that comparing longs is comparing productions: the
     * left side stands on top, then eight places of five bits with symbol + 1, and 0 behind the end.
     */
    private static final class Production {
        static final int LONGEST = 8;
        static final long TOO_LONG = -1;
        private static final int WIDTH = 5;
        private static final int PLACE = 31;
        private static final int RIGHT_WIDTH = WIDTH * LONGEST;
        private static final long RIGHT = (1L << RIGHT_WIDTH) - 1;

        static long withoutRight(int left) {
            return (long) left << RIGHT_WIDTH;
        }

        static int left(long production) {
            return (int) (production >>> RIGHT_WIDTH) & (NONTERMINALS - 1);
        }

        static int length(long production) {
            int length = 0;
            while (length < LONGEST && ((production >>> (RIGHT_WIDTH - WIDTH * (length + 1))) & PLACE) != 0) {
                length++;
            }
            return length;
        }

        static int symbolAt(long production, int index) {
            if (index < 0 || index >= LONGEST) {
                return NO_SYMBOL;
            }
            return (int) ((production >>> (RIGHT_WIDTH - WIDTH * (index + 1))) & PLACE) - 1;
        }

        static long extended(long production, int symbol) {
            int length = length(production);
            if (production == TOO_LONG || length >= LONGEST) {
                return TOO_LONG;
            }
            return production | ((long) (symbol + 1) << (RIGHT_WIDTH - WIDTH * (length + 1)));
        }

        /** The head with the right side of the source, from the index on, behind it. */
        static long joined(long head, long source, int from) {
            int place = length(head);
            if (head == TOO_LONG || from < 0 || place + length(source) - from > LONGEST) {
                return TOO_LONG;
            }
            long tail = (source << (WIDTH * from)) & RIGHT;
            return head | (tail >>> (WIDTH * place));
        }

        /** The production with only the first symbols of its right side. */
        static long cut(long production, int length) {
            long dropped = (1L << (WIDTH * (LONGEST - length))) - 1;
            return production & ~dropped;
        }

        /** The production with the right side's symbols left out whose indices are in the set. */
        static long thinned(long production, int omitted) {
            long thin = withoutRight(left(production));
            int length = length(production);
            for (int i = 0; i < length; i++) {
                if (((omitted >>> i) & 1) == 0) {
                    thin = extended(thin, symbolAt(production, i));
                }
            }
            return thin;
        }

        /** The production with another symbol for each occurrence of one from an index on. */
        static long renamed(long production, int symbol, int from, int name) {
            long result = withoutRight(left(production));
            int length = length(production);
            for (int i = 0; i < length; i++) {
                int old = symbolAt(production, i);
                result = extended(result, i >= from && old == symbol ? name : old);
            }
            return result;
        }

        static boolean isUnit(long production) {
            return isNonterminal(symbolAt(production, 0)) && symbolAt(production, 1) == NO_SYMBOL;
        }

        static boolean begins(long production, int left, int symbol) {
            return left(production) == left && symbolAt(production, 0) == symbol;
        }

        /** Whether all symbols of the right side from the index on are in the set. */
        static boolean staysIn(long production, int from, int symbols) {
            int length = length(production);
            for (int i = from; i < length; i++) {
                if (!isIn(symbols, symbolAt(production, i))) {
                    return false;
                }
            }
            return true;
        }

        static int rightSet(long production) {
            int set = 0;
            int length = length(production);
            for (int i = 0; i < length; i++) {
                set |= 1 << symbolAt(production, i);
            }
            return set;
        }

        static boolean fitsChomsky(long production) {
            int length = length(production);
            if (length == 1) {
                return isTerminal(symbolAt(production, 0));
            }
            return length == 2 && staysIn(production, 0, ALL_NONTERMINALS);
        }

        static boolean fitsGreibach(long production) {
            return isTerminal(symbolAt(production, 0)) && staysIn(production, 1, ALL_NONTERMINALS);
        }
    }

    /** A set of productions in their order. It remembers whether it was given more than it may hold. */
    private static final class Grammar {
        private static final int CAPACITY = 60;
        private final long[] productions;
        private int count;
        private boolean tooLarge;

        Grammar() {
            productions = new long[CAPACITY];
            count = 0;
            tooLarge = false;
        }

        int count() {
            return count;
        }

        boolean isTooLarge() {
            return tooLarge;
        }

        void refuse() {
            tooLarge = true;
        }

        long at(int index) {
            return index >= 0 && index < count ? productions[index] : Production.TOO_LONG;
        }

        void clear() {
            count = 0;
        }

        void copyFrom(Grammar other) {
            System.arraycopy(other.productions, 0, productions, 0, other.count);
            count = other.count;
            tooLarge = other.tooLarge;
        }

        void add(long production) {
            if (production == Production.TOO_LONG) {
                tooLarge = true;
                return;
            }
            int place = placeOf(production);
            if (place < count && productions[place] == production) {
                return;
            }
            if (count >= CAPACITY) {
                tooLarge = true;
                return;
            }
            System.arraycopy(productions, place, productions, place + 1, count - place);
            productions[place] = production;
            count++;
        }

        void remove(long production) {
            int place = placeOf(production);
            if (place < count && productions[place] == production) {
                System.arraycopy(productions, place + 1, productions, place, count - place - 1);
                count--;
            }
        }

        // Most productions come in order, so the search begins at the end.
        private int placeOf(long production) {
            int place = count;
            while (place > 0 && productions[place - 1] >= production) {
                place--;
            }
            return place;
        }

        int leftSides() {
            int set = 0;
            for (int i = 0; i < count; i++) {
                set |= 1 << Production.left(productions[i]);
            }
            return set;
        }

        int freeNonterminal() {
            int used = leftSides() | (1 << START);
            for (int i = 0; i < count; i++) {
                used |= Production.rightSet(productions[i]);
            }
            for (int nonterminal = 0; nonterminal < NONTERMINALS; nonterminal++) {
                if (!isIn(used, nonterminal)) {
                    return nonterminal;
                }
            }
            return NO_SYMBOL;
        }

        boolean hasEmpty() {
            for (int i = 0; i < count; i++) {
                if (Production.length(productions[i]) == 0) {
                    return true;
                }
            }
            return false;
        }

        boolean hasUnit() {
            for (int i = 0; i < count; i++) {
                if (Production.isUnit(productions[i])) {
                    return true;
                }
            }
            return false;
        }

        int nullable() {
            return derivable(0);
        }

        int productive() {
            return derivable(ALL_TERMINALS);
        }

        /** The nonterminals from which a sequence of the given terminals alone can be derived. */
        private int derivable(int terminals) {
            int set = 0;
            boolean grown = true;
            for (int round = 0; grown && round <= NONTERMINALS; round++) {
                int old = set;
                for (int i = 0; i < count; i++) {
                    if (Production.staysIn(productions[i], 0, set | terminals)) {
                        set |= 1 << Production.left(productions[i]);
                    }
                }
                grown = set != old;
            }
            return set;
        }
    }

    /** The input buffer, and how it is read. */
    private static final class InputText {
        private static final int CAPACITY = 60;
        private static final int LONGEST_WORD = 10;
        // What the reader is at; from 0 on it is in a right side that has so many symbols.
        private static final int BROKEN = -3, AT_GROUP = -2, AT_COLON = -1, AT_RIGHT = 0;
        private final int[] codes;
        private int length;

        InputText() {
            codes = new int[CAPACITY];
            length = 0;
        }

        int length() {
            return length;
        }

        int codeAt(int index) {
            return index >= 0 && index < length ? codes[index] : 0;
        }

        void clear() {
            length = 0;
        }

        boolean put(int code) {
            if (length >= CAPACITY) {
                return false;
            }
            codes[length] = code;
            length++;
            return true;
        }

        private static int stateAfter(int state, int code) {
            int symbol = symbolOf(code);
            if (state == AT_GROUP) {
                return isNonterminal(symbol) ? AT_COLON : BROKEN;
            }
            if (state == AT_COLON) {
                return code == ':' ? AT_RIGHT : BROKEN;
            }
            if (code == ';') {
                return AT_GROUP;
            }
            if (code == '|') {
                return AT_RIGHT;
            }
            return symbol == NO_SYMBOL || state >= Production.LONGEST ? BROKEN : state + 1;
        }

        int errorPlace() {
            int state = AT_GROUP;
            for (int i = 0; i < length; i++) {
                state = stateAfter(state, codes[i]);
                if (state == BROKEN) {
                    return i;
                }
            }
            return length;
        }

        boolean isGrammar() {
            int state = AT_GROUP;
            for (int i = 0; i < length && state != BROKEN; i++) {
                state = stateAfter(state, codes[i]);
            }
            return state >= AT_RIGHT;
        }

        /** Fills the grammar from a buffer that is one. */
        void readInto(Grammar target) {
            target.clear();
            int state = AT_GROUP;
            long production = 0;
            for (int i = 0; i < length; i++) {
                int code = codes[i];
                if (state == AT_GROUP) {
                    production = Production.withoutRight(symbolOf(code));
                } else if (code == '|' || code == ';') {
                    target.add(production);
                    production = Production.cut(production, 0);
                } else if (state != AT_COLON) {
                    production = Production.extended(production, symbolOf(code));
                }
                state = stateAfter(state, code);
            }
            target.add(production);
        }

        boolean isWord() {
            if (length > LONGEST_WORD) {
                return false;
            }
            for (int i = 0; i < length; i++) {
                if (!isTerminal(symbolOf(codes[i]))) {
                    return false;
                }
            }
            return true;
        }
    }

    /** A relation of nonterminals: which of them lead to which, in one or more steps. */
    private static final class Arrows {
        private final int[] targets;

        Arrows() {
            targets = new int[NONTERMINALS];
        }

        void followOccurrences(Grammar grammar) {
            Arrays.fill(targets, 0);
            for (int i = 0; i < grammar.count(); i++) {
                long production = grammar.at(i);
                targets[Production.left(production)] |= Production.rightSet(production) & ALL_NONTERMINALS;
            }
            close();
        }

        void followUnits(Grammar grammar) {
            Arrays.fill(targets, 0);
            for (int i = 0; i < grammar.count(); i++) {
                long production = grammar.at(i);
                if (Production.isUnit(production)) {
                    targets[Production.left(production)] |= Production.rightSet(production);
                }
            }
            close();
        }

        void followLeftEnds(Grammar grammar, int nullable) {
            Arrays.fill(targets, 0);
            for (int i = 0; i < grammar.count(); i++) {
                long production = grammar.at(i);
                targets[Production.left(production)] |= leftEnds(production, nullable);
            }
            close();
        }

        private static int leftEnds(long production, int nullable) {
            int ends = 0;
            boolean open = true;
            for (int i = 0; open && i < Production.LONGEST; i++) {
                int symbol = Production.symbolAt(production, i);
                if (isNonterminal(symbol)) {
                    ends |= 1 << symbol;
                }
                open = isIn(nullable, symbol);
            }
            return ends;
        }

        private void close() {
            for (int via = 0; via < NONTERMINALS; via++) {
                for (int from = 0; from < NONTERMINALS; from++) {
                    if (isIn(targets[from], via)) {
                        targets[from] |= targets[via];
                    }
                }
            }
        }

        int reachFrom(int nonterminal) {
            return isNonterminal(nonterminal) ? targets[nonterminal] | (1 << nonterminal) : 0;
        }

        int loops() {
            int set = 0;
            for (int nonterminal = 0; nonterminal < NONTERMINALS; nonterminal++) {
                set |= targets[nonterminal] & (1 << nonterminal);
            }
            return set;
        }
    }

    /** FIRST and FOLLOW sets, as the face gives them: bit 0 for a, bit 8 for the end marker. */
    private static final class Analysis {
        // Each round but the last adds an element to one of 16 sets of at most 9.
        private static final int ROUNDS = NONTERMINALS * (TERMINALS + 1) + 1;
        private final int[] firsts;
        private final int[] follows;
        private int nullable;

        Analysis() {
            firsts = new int[NONTERMINALS];
            follows = new int[NONTERMINALS];
            nullable = 0;
        }

        void study(Grammar grammar) {
            nullable = grammar.nullable();
            findFirsts(grammar);
            findFollows(grammar);
        }

        int firstOf(int nonterminal) {
            return isNonterminal(nonterminal) ? firsts[nonterminal] : 0;
        }

        int followOf(int nonterminal) {
            return isNonterminal(nonterminal) ? follows[nonterminal] : 0;
        }

        private void findFirsts(Grammar grammar) {
            Arrays.fill(firsts, 0);
            boolean grown = true;
            for (int round = 0; grown && round < ROUNDS; round++) {
                grown = false;
                for (int i = 0; i < grammar.count(); i++) {
                    long production = grammar.at(i);
                    grown |= grow(firsts, Production.left(production), beginnings(production, 0));
                }
            }
        }

        private void findFollows(Grammar grammar) {
            Arrays.fill(follows, 0);
            follows[START] = END_MARKER;
            boolean grown = true;
            for (int round = 0; grown && round < ROUNDS; round++) {
                grown = false;
                for (int i = 0; i < grammar.count(); i++) {
                    grown |= passFollows(grammar.at(i));
                }
            }
        }

        private boolean passFollows(long production) {
            boolean grown = false;
            int length = Production.length(production);
            for (int i = 0; i < length; i++) {
                int symbol = Production.symbolAt(production, i);
                if (isNonterminal(symbol)) {
                    grown |= grow(follows, symbol, comingAfter(production, i + 1));
                }
            }
            return grown;
        }

        private static boolean grow(int[] sets, int index, int added) {
            if (index < 0 || index >= sets.length) {
                return false;
            }
            int old = sets[index];
            sets[index] = old | added;
            return sets[index] != old;
        }

        /** The terminals with which the right side from the index on can begin. */
        private int beginnings(long production, int from) {
            int set = 0;
            int length = Production.length(production);
            for (int i = from; i < length; i++) {
                int symbol = Production.symbolAt(production, i);
                if (isTerminal(symbol)) {
                    return set | (1 << (symbol - NONTERMINALS));
                }
                if (isNonterminal(symbol)) {
                    set |= firsts[symbol];
                }
                if (!isIn(nullable, symbol)) {
                    return set;
                }
            }
            return set;
        }

        /** What can come at the index of the right side, or behind the production from there. */
        private int comingAfter(long production, int from) {
            int set = beginnings(production, from);
            if (Production.staysIn(production, from, nullable)) {
                set |= followOf(Production.left(production));
            }
            return set;
        }

        boolean hasDistinctLookaheads(Grammar grammar) {
            int left = NO_SYMBOL;
            int seen = 0;
            for (int i = 0; i < grammar.count(); i++) {
                long production = grammar.at(i);
                if (Production.left(production) != left) {
                    left = Production.left(production);
                    seen = 0;
                }
                int lookahead = comingAfter(production, 0);
                if ((seen & lookahead) != 0) {
                    return false;
                }
                seen |= lookahead;
            }
            return true;
        }
    }

    /** Derives one word of at most ten terminals. */
    private static final class Parser {
        private static final int LONGEST_WORD = 10;
        private static final int PLACES = LONGEST_WORD + 1;
        // Each round but the last finds a new nonterminal with a start and an end.
        private static final int ROUNDS = NONTERMINALS * PLACES * PLACES + 1;
        private final int[] word;
        private int length;
        // For each nonterminal and start in the word: the set of the ends that it can reach.
        private final int[] ends;
        // For each nonterminal, start and end: the number of its trees.
        private final long[] trees;
        // For each place in the word: the ways to get there with the symbols taken so far.
        private final long[] ways;
        // For each nonterminal: its trees over one part of the word that begin with no unit production.
        private final long[] plain;
        // For each nonterminal: all its trees over that part, as far as they have been found.
        private final long[] totals;
        private final long[] earlier;

        Parser() {
            word = new int[LONGEST_WORD];
            length = 0;
            ends = new int[NONTERMINALS * PLACES];
            trees = new long[NONTERMINALS * PLACES * PLACES];
            ways = new long[PLACES];
            plain = new long[NONTERMINALS];
            totals = new long[NONTERMINALS];
            earlier = new long[NONTERMINALS];
        }

        void read(InputText input) {
            length = Math.min(input.length(), LONGEST_WORD);
            for (int i = 0; i < length; i++) {
                word[i] = symbolOf(input.codeAt(i));
            }
        }

        private boolean stands(int terminal, int place) {
            return place >= 0 && place < length && word[place] == terminal;
        }

        boolean derives(Grammar grammar) {
            Arrays.fill(ends, 0);
            boolean grown = true;
            for (int round = 0; grown && round < ROUNDS; round++) {
                grown = false;
                for (int i = 0; i < grammar.count(); i++) {
                    grown |= addEnds(grammar.at(i));
                }
            }
            return ((ends[START] >>> length) & 1) != 0;
        }

        private boolean addEnds(long production) {
            boolean grown = false;
            int row = Production.left(production) * PLACES;
            for (int start = 0; start <= length; start++) {
                int old = ends[row + start];
                ends[row + start] = old | endsOf(production, start);
                grown |= ends[row + start] != old;
            }
            return grown;
        }

        private int endsOf(long production, int start) {
            int places = 1 << start;
            int size = Production.length(production);
            for (int i = 0; places != 0 && i < size; i++) {
                places = endsFrom(places, Production.symbolAt(production, i));
            }
            return places;
        }

        private int endsFrom(int places, int symbol) {
            int reached = 0;
            for (int place = 0; place <= length; place++) {
                if (((places >>> place) & 1) == 0) {
                    continue;
                }
                if (isNonterminal(symbol)) {
                    reached |= ends[symbol * PLACES + place];
                } else if (stands(symbol, place)) {
                    reached |= 1 << (place + 1);
                }
            }
            return reached;
        }

        /** The number of trees in a grammar without empty productions and circles of units. */
        long treesOf(Grammar grammar) {
            Arrays.fill(trees, 0);
            boolean units = grammar.hasUnit();
            for (int size = 1; size <= length; size++) {
                for (int start = 0; start + size <= length; start++) {
                    countPlain(grammar, start, start + size);
                    if (units) {
                        spreadUnits(grammar);
                    }
                    keepTotals(start, start + size);
                }
            }
            return treesAt(START, 0, length);
        }

        private long treesAt(int nonterminal, int start, int end) {
            return trees[(nonterminal * PLACES + start) * PLACES + end];
        }

        private void keepTotals(int start, int end) {
            for (int nonterminal = 0; nonterminal < NONTERMINALS; nonterminal++) {
                trees[(nonterminal * PLACES + start) * PLACES + end] = totals[nonterminal];
            }
        }

        private void countPlain(Grammar grammar, int start, int end) {
            Arrays.fill(plain, 0);
            for (int i = 0; i < grammar.count(); i++) {
                long production = grammar.at(i);
                if (!Production.isUnit(production)) {
                    plain[Production.left(production)] += waysThrough(production, start, end);
                }
            }
            System.arraycopy(plain, 0, totals, 0, NONTERMINALS);
        }

        private long waysThrough(long production, int start, int end) {
            int size = Production.length(production);
            if (size > end - start) {
                return 0;
            }
            Arrays.fill(ways, 0);
            ways[start] = 1;
            for (int i = 0; i < size; i++) {
                takeSymbol(Production.symbolAt(production, i), start, end);
            }
            return ways[end];
        }

        // Goes down, because each symbol takes at least one place, so only lower places are asked.
        private void takeSymbol(int symbol, int start, int end) {
            for (int place = end; place >= start; place--) {
                long sum = 0;
                for (int from = start; from < place; from++) {
                    if (ways[from] != 0) {
                        sum += ways[from] * treesOfSymbol(symbol, from, place);
                    }
                }
                ways[place] = sum;
            }
        }

        private long treesOfSymbol(int symbol, int start, int end) {
            if (isNonterminal(symbol)) {
                return treesAt(symbol, start, end);
            }
            return end == start + 1 && stands(symbol, start) ? 1 : 0;
        }

        // Without circles no chain of units is longer than there are nonterminals.
        private void spreadUnits(Grammar grammar) {
            for (int round = 0; round < NONTERMINALS; round++) {
                System.arraycopy(totals, 0, earlier, 0, NONTERMINALS);
                System.arraycopy(plain, 0, totals, 0, NONTERMINALS);
                for (int i = 0; i < grammar.count(); i++) {
                    long production = grammar.at(i);
                    int target = Production.symbolAt(production, 0);
                    if (Production.isUnit(production) && isNonterminal(target)) {
                        totals[Production.left(production)] += earlier[target];
                    }
                }
            }
        }
    }

    /** The words of length 0, 1 and 2 that can be derived from each nonterminal. */
    private static final class ShortWords {
        // Each round but the last finds a new word of one of the nonterminals.
        private static final int ROUNDS = NONTERMINALS * (1 + TERMINALS + TERMINALS * TERMINALS) + 1;
        // Sets of words as bits: 1 for the empty word, 1 << x for x, 1 << (8 * x + y) for x y.
        private final long[] none;
        private final long[] ones;
        private final long[] twos;
        // The words of the part of a right side that has been read.
        private long readNone;
        private long readOnes;
        private long readTwos;

        ShortWords() {
            none = new long[NONTERMINALS];
            ones = new long[NONTERMINALS];
            twos = new long[NONTERMINALS];
            readNone = 0;
            readOnes = 0;
            readTwos = 0;
        }

        void study(Grammar grammar) {
            Arrays.fill(none, 0);
            Arrays.fill(ones, 0);
            Arrays.fill(twos, 0);
            boolean grown = true;
            for (int round = 0; grown && round < ROUNDS; round++) {
                grown = false;
                for (int i = 0; i < grammar.count(); i++) {
                    readRight(grammar.at(i));
                    grown |= keepRead(Production.left(grammar.at(i)));
                }
            }
        }

        /** The words of A with that length, as a set. */
        long ofLength(int length) {
            if (length == 0) {
                return none[START];
            }
            return length == 1 ? ones[START] : twos[START];
        }

        private void readRight(long production) {
            readNone = 1;
            readOnes = 0;
            readTwos = 0;
            int length = Production.length(production);
            for (int i = 0; i < length; i++) {
                int symbol = Production.symbolAt(production, i);
                if (isNonterminal(symbol)) {
                    readOn(none[symbol], ones[symbol], twos[symbol]);
                } else {
                    readOn(0, 1L << (symbol - NONTERMINALS), 0);
                }
            }
        }

        private void readOn(long nextNone, long nextOnes, long nextTwos) {
            long two = pairs(readOnes, nextOnes);
            two |= readNone != 0 ? nextTwos : 0;
            two |= nextNone != 0 ? readTwos : 0;
            long one = readNone != 0 ? nextOnes : 0;
            one |= nextNone != 0 ? readOnes : 0;
            readNone &= nextNone;
            readOnes = one;
            readTwos = two;
        }

        private static long pairs(long heads, long tails) {
            long set = 0;
            for (int head = 0; head < TERMINALS; head++) {
                if (((heads >>> head) & 1) != 0) {
                    set |= tails << (TERMINALS * head);
                }
            }
            return set;
        }

        private boolean keepRead(int left) {
            if (!isNonterminal(left)) {
                return false;
            }
            long news = (readNone & ~none[left]) | (readOnes & ~ones[left]) | (readTwos & ~twos[left]);
            none[left] |= readNone;
            ones[left] |= readOnes;
            twos[left] |= readTwos;
            return news != 0;
        }
    }

    /**
     * Works on a copy of a grammar in steps. A copy that has become too large stays so, and no
     * further step is made on it.
     */
    private static final class Transformer {
        // Far above what is needed: expanding ends, since no left recursion is left.
        private static final int MOST_STEPS = 1000000;
        private static final int SUBSETS = 1 << Production.LONGEST;
        private final Grammar copy;
        // The copy as it was before the step.
        private final Grammar before;

        Transformer() {
            copy = new Grammar();
            before = new Grammar();
        }

        void begin(Grammar grammar) {
            copy.copyFrom(grammar);
        }

        int finish(Grammar grammar) {
            if (copy.isTooLarge()) {
                return TOO_LARGE;
            }
            grammar.copyFrom(copy);
            return grammar.count();
        }

        private void beginStep() {
            before.copyFrom(copy);
            copy.clear();
        }

        void dropUseless(Arrows arrows) {
            int productive = copy.productive();
            beginStep();
            for (int i = 0; i < before.count(); i++) {
                long production = before.at(i);
                // A left side is productive if the whole right side is.
                if (Production.staysIn(production, 0, productive | ALL_TERMINALS)) {
                    copy.add(production);
                }
            }
            arrows.followOccurrences(copy);
            int reachable = arrows.reachFrom(START);
            beginStep();
            for (int i = 0; i < before.count(); i++) {
                long production = before.at(i);
                if (isIn(reachable, Production.left(production))) {
                    copy.add(production);
                }
            }
        }

        void dropEmpty() {
            int nullable = copy.nullable();
            beginStep();
            for (int i = 0; i < before.count() && !copy.isTooLarge(); i++) {
                addThinned(before.at(i), nullable);
            }
        }

        private void addThinned(long production, int nullable) {
            int places = 0;
            int length = Production.length(production);
            for (int i = 0; i < length; i++) {
                if (isIn(nullable, Production.symbolAt(production, i))) {
                    places |= 1 << i;
                }
            }
            for (int omitted = 0; omitted < SUBSETS && !copy.isTooLarge(); omitted++) {
                if ((omitted & ~places) == 0 && Integer.bitCount(omitted) < length) {
                    copy.add(Production.thinned(production, omitted));
                }
            }
        }

        void dropUnits(Arrows arrows) {
            arrows.followUnits(copy);
            beginStep();
            for (int left = 0; left < NONTERMINALS && !copy.isTooLarge(); left++) {
                addLent(left, arrows.reachFrom(left));
            }
        }

        /** Adds for the left side what the nonterminals of the set have, but for units. */
        private void addLent(int left, int lenders) {
            for (int i = 0; i < before.count(); i++) {
                long production = before.at(i);
                if (isIn(lenders, Production.left(production)) && !Production.isUnit(production)) {
                    copy.add(Production.joined(Production.withoutRight(left), production, 0));
                }
            }
        }

        /** Puts a nonterminal for each terminal in longer right sides, from the index on. */
        void nameTerminals(int from) {
            for (int terminal = NONTERMINALS; terminal < SYMBOLS && !copy.isTooLarge(); terminal++) {
                if (occursInLong(terminal, from)) {
                    nameTerminal(terminal, from);
                }
            }
        }

        private boolean occursInLong(int terminal, int from) {
            for (int i = 0; i < copy.count(); i++) {
                long production = copy.at(i);
                int length = Production.length(production);
                for (int k = from; length > 1 && k < length; k++) {
                    if (Production.symbolAt(production, k) == terminal) {
                        return true;
                    }
                }
            }
            return false;
        }

        private void nameTerminal(int terminal, int from) {
            int name = copy.freeNonterminal();
            if (name == NO_SYMBOL) {
                copy.refuse();
                return;
            }
            beginStep();
            for (int i = 0; i < before.count(); i++) {
                long production = before.at(i);
                boolean isLong = Production.length(production) > 1;
                copy.add(isLong ? Production.renamed(production, terminal, from, name) : production);
            }
            copy.add(Production.extended(Production.withoutRight(name), terminal));
        }

        // Each step uses up a nonterminal, so there are no more steps than nonterminals.
        void splitLong() {
            for (int step = 0; step <= NONTERMINALS && !copy.isTooLarge(); step++) {
                long production = firstLong();
                if (production == Production.TOO_LONG) {
                    return;
                }
                split(production);
            }
        }

        /** The first production to be split, or TOO_LONG if there is none. */
        private long firstLong() {
            for (int i = 0; i < copy.count(); i++) {
                if (Production.length(copy.at(i)) > 2) {
                    return copy.at(i);
                }
            }
            return Production.TOO_LONG;
        }

        private void split(long production) {
            int rest = copy.freeNonterminal();
            if (rest == NO_SYMBOL) {
                copy.refuse();
                return;
            }
            copy.remove(production);
            copy.add(Production.extended(Production.cut(production, 1), rest));
            copy.add(Production.joined(Production.withoutRight(rest), production, 1));
        }

        void dropLeftRecursion() {
            int lefts = copy.leftSides();
            for (int left = 0; left < NONTERMINALS && !copy.isTooLarge(); left++) {
                if (isIn(lefts, left)) {
                    treatLeft(left, lefts);
                }
            }
        }

        private void treatLeft(int left, int lefts) {
            for (int earlier = 0; earlier < left && !copy.isTooLarge(); earlier++) {
                if (isIn(lefts, earlier)) {
                    expandAll(left, earlier);
                }
            }
            if (!copy.isTooLarge()) {
                turnRecursion(left);
            }
        }

        private void expandAll(int left, int first) {
            before.copyFrom(copy);
            for (int i = 0; i < before.count(); i++) {
                if (Production.begins(before.at(i), left, first)) {
                    copy.remove(before.at(i));
                }
            }
            for (int i = 0; i < before.count(); i++) {
                if (Production.begins(before.at(i), left, first)) {
                    addExpansions(before.at(i));
                }
            }
        }

        /** Adds the production with each right side that its first symbol had before the step. */
        private void addExpansions(long production) {
            int first = Production.symbolAt(production, 0);
            long head = Production.withoutRight(Production.left(production));
            for (int i = 0; i < before.count(); i++) {
                if (Production.left(before.at(i)) == first) {
                    long begun = Production.joined(head, before.at(i), 0);
                    copy.add(Production.joined(begun, production, 1));
                }
            }
        }

        /** Turns the productions that begin with their own left side into right recursion. */
        private void turnRecursion(int left) {
            copy.remove(Production.extended(Production.withoutRight(left), left));
            if (!isRecursive(left)) {
                return;
            }
            int loop = copy.freeNonterminal();
            if (loop == NO_SYMBOL) {
                copy.refuse();
                return;
            }
            beginStep();
            for (int i = 0; i < before.count(); i++) {
                long kept = before.at(i);
                if (Production.begins(kept, left, left)) {
                    kept = Production.joined(Production.withoutRight(loop), kept, 1);
                    copy.add(Production.extended(kept, loop));
                } else if (Production.left(kept) == left) {
                    copy.add(Production.extended(kept, loop));
                }
                copy.add(kept);
            }
        }

        private boolean isRecursive(int left) {
            for (int i = 0; i < copy.count(); i++) {
                if (Production.begins(copy.at(i), left, left)) {
                    return true;
                }
            }
            return false;
        }

        /** Expands productions that begin with a nonterminal until there is none. */
        void expandLeftEnds() {
            for (int step = 0; step < MOST_STEPS && !copy.isTooLarge(); step++) {
                long production = firstWithNonterminal();
                if (production == Production.TOO_LONG) {
                    return;
                }
                before.copyFrom(copy);
                copy.remove(production);
                addExpansions(production);
            }
            copy.refuse();
        }

        /** The first production to be expanded, or TOO_LONG if there is none. */
        private long firstWithNonterminal() {
            for (int i = 0; i < copy.count(); i++) {
                if (isNonterminal(Production.symbolAt(copy.at(i), 0))) {
                    return copy.at(i);
                }
            }
            return Production.TOO_LONG;
        }

        // Each step uses up a nonterminal, so there are no more steps than nonterminals.
        void factorPrefixes() {
            for (int step = 0; step <= NONTERMINALS && !copy.isTooLarge(); step++) {
                int start = firstShared();
                if (start == copy.count()) {
                    return;
                }
                factor(start);
            }
        }

        /** The first production that begins like the next one; the count if there is none. */
        private int firstShared() {
            for (int i = 0; i + 1 < copy.count(); i++) {
                if (sharedLength(copy.at(i), copy.at(i + 1)) > 0) {
                    return i;
                }
            }
            return copy.count();
        }

        /** The length of the common prefix; 0 for different left sides. */
        private static int sharedLength(long one, long other) {
            if (Production.left(one) != Production.left(other)) {
                return 0;
            }
            int most = Math.min(Production.length(one), Production.length(other));
            int shared = 0;
            while (shared < most && Production.symbolAt(one, shared) == Production.symbolAt(other, shared)) {
                shared++;
            }
            return shared;
        }

        // In their order, what the first and the last of them share is what all of them share.
        private void factor(int start) {
            int rest = copy.freeNonterminal();
            if (rest == NO_SYMBOL) {
                copy.refuse();
                return;
            }
            before.copyFrom(copy);
            long head = before.at(start);
            int shared = Production.LONGEST;
            for (int i = start; i < before.count(); i++) {
                int common = sharedLength(head, before.at(i));
                if (common == 0) {
                    break;
                }
                shared = common;
                copy.remove(before.at(i));
            }
            copy.add(Production.extended(Production.cut(head, shared), rest));
            for (int i = start; i < before.count() && sharedLength(head, before.at(i)) > 0; i++) {
                copy.add(Production.joined(Production.withoutRight(rest), before.at(i), shared));
            }
        }
    }
}
