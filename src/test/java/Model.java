import java.math.BigInteger;
import java.util.ArrayList;
import java.util.Arrays;
import java.util.HashMap;
import java.util.HashSet;
import java.util.List;
import java.util.Map;
import java.util.Set;
import java.util.TreeSet;

/**
 * A second, slow and literal reading of the document, for comparison: a production is a text such
 * as "AbC" (left side first), a grammar a sorted set of texts. It shares no code with the class.
 */
final class Model {
    private static final String ORDER = "ABCDEFGHIJKLMNOPabcdefgh";
    private static final String NONTERMINALS = "ABCDEFGHIJKLMNOP";
    private static final String TERMINALS = "abcdefgh";

    private static final class TooLarge extends RuntimeException {
        private static final long serialVersionUID = 1;
    }

    private TreeSet<String> grammar = newGrammar();
    private TreeSet<String> saved = null;
    private final StringBuilder buffer = new StringBuilder();
    int expansions = 0;

    private static TreeSet<String> newGrammar() {
        return new TreeSet<>(Model::compare);
    }

    private static int compare(String x, String y) {
        for (int i = 0; i < Math.min(x.length(), y.length()); i++) {
            int difference = ORDER.indexOf(x.charAt(i)) - ORDER.indexOf(y.charAt(i));
            if (difference != 0) {
                return difference;
            }
        }
        return x.length() - y.length();
    }

    private static boolean isNonterminal(char c) {
        return NONTERMINALS.indexOf(c) >= 0;
    }

    private static String right(String production) {
        return production.substring(1);
    }

    private static boolean isUnit(String production) {
        return production.length() == 2 && isNonterminal(production.charAt(1));
    }

    private static int mask(Set<Character> set, String alphabet) {
        int mask = 0;
        for (char c : set) {
            mask |= 1 << alphabet.indexOf(c);
        }
        return mask;
    }

    // ---- input

    int append(int code) {
        if (code < ' ' || code > '~') {
            return -2;
        }
        if (buffer.length() == 60) {
            return -3;
        }
        buffer.append((char) code);
        return buffer.length();
    }

    int clearInput() {
        int length = buffer.length();
        buffer.setLength(0);
        return length;
    }

    /** Whether the text could be the beginning of a grammar, by the shape of its groups. */
    private static boolean isBeginning(String text) {
        String side = "[A-Pa-h]{0,8}";
        String group = "[A-P]:" + side + "(\\|" + side + ")*";
        return text.matches("(" + group + ";)*([A-P]|" + group + ")?");
    }

    int firstError() {
        for (int length = 1; length <= buffer.length(); length++) {
            if (!isBeginning(buffer.substring(0, length))) {
                return length - 1;
            }
        }
        return buffer.length();
    }

    int load() {
        String side = "[A-Pa-h]{0,8}";
        String group = "[A-P]:" + side + "(\\|" + side + ")*";
        String text = buffer.toString();
        if (!text.matches(group + "(;" + group + ")*")) {
            return -4;
        }
        grammar = newGrammar();
        for (String part : text.split(";", -1)) {
            for (String rightSide : part.substring(2).split("\\|", -1)) {
                grammar.add(part.charAt(0) + rightSide);
            }
        }
        buffer.setLength(0);
        return grammar.size();
    }

    private boolean isWord() {
        return buffer.toString().matches("[a-h]{0,10}");
    }

    /** The parts of the word, or all words up to a length, that each nonterminal derives. */
    private static Map<Character, Set<String>> languages(Set<String> productions, String word, int most) {
        Map<Character, Set<String>> languages = new HashMap<>();
        for (char x : NONTERMINALS.toCharArray()) {
            languages.put(x, new HashSet<>());
        }
        boolean grown = true;
        while (grown) {
            grown = false;
            for (String production : productions) {
                Set<String> sums = new HashSet<>(Set.of(""));
                for (char symbol : right(production).toCharArray()) {
                    Set<String> next = new HashSet<>();
                    Set<String> tails = isNonterminal(symbol) ? languages.get(symbol) : Set.of("" + symbol);
                    for (String head : sums) {
                        for (String tail : tails) {
                            String sum = head + tail;
                            if (sum.length() <= most && (word == null || word.contains(sum))) {
                                next.add(sum);
                            }
                        }
                    }
                    sums = next;
                }
                grown |= languages.get(production.charAt(0)).addAll(sums);
            }
        }
        return languages;
    }

    int accepts() {
        if (!isWord()) {
            return -4;
        }
        String word = buffer.toString();
        return languages(grammar, word, 10).get('A').contains(word) ? 1 : 0;
    }

    private static boolean hasEmpty(Set<String> productions) {
        return productions.stream().anyMatch(p -> p.length() == 1);
    }

    private boolean isEndless() {
        if (hasEmpty(grammar)) {
            return true;
        }
        for (char x : NONTERMINALS.toCharArray()) {
            for (char y : unitClosure(x)) {
                if (grammar.contains("" + y + x)) {
                    return true;
                }
            }
        }
        return false;
    }

    long countTrees() {
        if (!isWord()) {
            return -4;
        }
        if (isEndless()) {
            return -8;
        }
        String word = buffer.toString();
        return word.isEmpty() ? 0 : trees("A", word, new HashMap<>()).longValue();
    }

    /** The ways to derive a word that is not empty from a sequence that is not empty. */
    private BigInteger trees(String sequence, String word, Map<String, BigInteger> known) {
        if (sequence.length() > word.length()) {
            return BigInteger.ZERO;
        }
        if (sequence.length() == 1 && !isNonterminal(sequence.charAt(0))) {
            return sequence.equals(word) ? BigInteger.ONE : BigInteger.ZERO;
        }
        BigInteger old = known.get(sequence + "/" + word);
        if (old != null) {
            return old;
        }
        BigInteger sum = BigInteger.ZERO;
        if (sequence.length() == 1) {
            for (String production : grammar) {
                if (production.charAt(0) == sequence.charAt(0)) {
                    sum = sum.add(trees(right(production), word, known));
                }
            }
        } else {
            for (int cut = 1; cut < word.length(); cut++) {
                BigInteger head = trees(sequence.substring(0, 1), word.substring(0, cut), known);
                if (head.signum() != 0) {
                    sum = sum.add(head.multiply(trees(sequence.substring(1), word.substring(cut), known)));
                }
            }
        }
        known.put(sequence + "/" + word, sum);
        return sum;
    }

    // ---- productions

    int productionCount() {
        return grammar.size();
    }

    int symbol(int production, int index) {
        List<String> list = new ArrayList<>(grammar);
        if (production < 0 || production >= list.size()) {
            return -5;
        }
        String text = list.get(production);
        return index < 0 || index >= text.length() ? -1 : text.charAt(index);
    }

    // ---- properties

    private static Set<Character> derivable(Set<String> productions, String terminals) {
        Set<Character> set = new HashSet<>();
        boolean grown = true;
        while (grown) {
            grown = false;
            for (String production : productions) {
                boolean all = true;
                for (char c : right(production).toCharArray()) {
                    all &= set.contains(c) || terminals.indexOf(c) >= 0;
                }
                if (all) {
                    grown |= set.add(production.charAt(0));
                }
            }
        }
        return set;
    }

    private static Set<Character> reachable(Set<String> productions) {
        Set<Character> set = new HashSet<>(Set.of('A'));
        boolean grown = true;
        while (grown) {
            grown = false;
            for (String production : productions) {
                if (set.contains(production.charAt(0))) {
                    for (char c : right(production).toCharArray()) {
                        grown |= isNonterminal(c) && set.add(c);
                    }
                }
            }
        }
        return set;
    }

    int nullableSet() {
        return mask(derivable(grammar, ""), NONTERMINALS);
    }

    int productiveSet() {
        return mask(derivable(grammar, TERMINALS), NONTERMINALS);
    }

    int reachableSet() {
        return mask(reachable(grammar), NONTERMINALS);
    }

    private Set<Character> leadsTo(char x, Set<Character> nullable) {
        Set<Character> set = new HashSet<>();
        for (String production : grammar) {
            if (production.charAt(0) == x) {
                for (char c : right(production).toCharArray()) {
                    if (!isNonterminal(c)) {
                        break;
                    }
                    set.add(c);
                    if (!nullable.contains(c)) {
                        break;
                    }
                }
            }
        }
        return set;
    }

    int leftRecursiveSet() {
        Set<Character> nullable = derivable(grammar, "");
        Set<Character> recursive = new HashSet<>();
        for (char x : NONTERMINALS.toCharArray()) {
            Set<Character> seen = new HashSet<>();
            List<Character> waiting = new ArrayList<>(List.of(x));
            while (!waiting.isEmpty()) {
                for (char y : leadsTo(waiting.remove(waiting.size() - 1), nullable)) {
                    if (seen.add(y)) {
                        waiting.add(y);
                    }
                }
            }
            if (seen.contains(x)) {
                recursive.add(x);
            }
        }
        return mask(recursive, NONTERMINALS);
    }

    private Set<Character> unitClosure(char x) {
        Set<Character> set = new HashSet<>(Set.of(x));
        for (int round = 0; round < 16; round++) {
            for (String production : grammar) {
                if (isUnit(production) && set.contains(production.charAt(0))) {
                    set.add(production.charAt(1));
                }
            }
        }
        return set;
    }

    int unitReach(int nonterminal) {
        if (nonterminal < 0 || nonterminal > 15) {
            return -6;
        }
        return mask(unitClosure(NONTERMINALS.charAt(nonterminal)), NONTERMINALS);
    }

    private Map<Character, Set<Character>> firsts() {
        Set<Character> nullable = derivable(grammar, "");
        Map<Character, Set<Character>> firsts = new HashMap<>();
        for (char x : ORDER.toCharArray()) {
            firsts.put(x, new HashSet<>(isNonterminal(x) ? Set.of() : Set.of(x)));
        }
        boolean grown = true;
        while (grown) {
            grown = false;
            for (String production : grammar) {
                grown |= firsts.get(production.charAt(0)).addAll(firstOf(right(production), firsts, nullable));
            }
        }
        return firsts;
    }

    private static Set<Character> firstOf(String sequence, Map<Character, Set<Character>> firsts, Set<Character> nullable) {
        Set<Character> set = new HashSet<>();
        for (char c : sequence.toCharArray()) {
            set.addAll(firsts.get(c));
            if (!nullable.contains(c)) {
                break;
            }
        }
        return set;
    }

    private static boolean vanishes(String sequence, Set<Character> nullable) {
        return sequence.chars().allMatch(c -> nullable.contains((char) c));
    }

    private Map<Character, Set<Character>> follows() {
        Set<Character> nullable = derivable(grammar, "");
        Map<Character, Set<Character>> firsts = firsts();
        Map<Character, Set<Character>> follows = new HashMap<>();
        for (char x : NONTERMINALS.toCharArray()) {
            follows.put(x, new HashSet<>());
        }
        follows.get('A').add('$');
        boolean grown = true;
        while (grown) {
            grown = false;
            for (String production : grammar) {
                for (int i = 1; i < production.length(); i++) {
                    if (isNonterminal(production.charAt(i))) {
                        String behind = production.substring(i + 1);
                        Set<Character> own = follows.get(production.charAt(i));
                        grown |= own.addAll(firstOf(behind, firsts, nullable));
                        if (vanishes(behind, nullable)) {
                            grown |= own.addAll(new HashSet<>(follows.get(production.charAt(0))));
                        }
                    }
                }
            }
        }
        return follows;
    }

    int firstSet(int nonterminal) {
        if (nonterminal < 0 || nonterminal > 15) {
            return -6;
        }
        return mask(firsts().get(NONTERMINALS.charAt(nonterminal)), TERMINALS);
    }

    int followSet(int nonterminal) {
        if (nonterminal < 0 || nonterminal > 15) {
            return -6;
        }
        return mask(follows().get(NONTERMINALS.charAt(nonterminal)), TERMINALS + "$");
    }

    int isLl1() {
        Set<Character> nullable = derivable(grammar, "");
        Map<Character, Set<Character>> firsts = firsts();
        Map<Character, Set<Character>> follows = follows();
        for (String one : grammar) {
            for (String other : grammar) {
                if (!one.equals(other) && one.charAt(0) == other.charAt(0)) {
                    Set<Character> common = firstOf(right(one), firsts, nullable);
                    Set<Character> lookahead = firstOf(right(other), firsts, nullable);
                    if (vanishes(right(one), nullable)) {
                        common.addAll(follows.get(one.charAt(0)));
                    }
                    if (vanishes(right(other), nullable)) {
                        lookahead.addAll(follows.get(one.charAt(0)));
                    }
                    common.retainAll(lookahead);
                    if (!common.isEmpty()) {
                        return 0;
                    }
                }
            }
        }
        return 1;
    }

    int isChomsky() {
        return grammar.stream().allMatch(p -> right(p).matches("[a-h]|[A-P][A-P]")) ? 1 : 0;
    }

    int isGreibach() {
        return grammar.stream().allMatch(p -> right(p).matches("[a-h][A-P]*")) ? 1 : 0;
    }

    // ---- transformations

    private static void check(Set<String> copy) {
        if (copy.size() > 60 || copy.stream().anyMatch(p -> p.length() > 9)) {
            throw new TooLarge();
        }
    }

    private static char free(Set<String> copy) {
        String all = "A" + String.join("", copy);
        for (char x : NONTERMINALS.toCharArray()) {
            if (all.indexOf(x) < 0) {
                return x;
            }
        }
        throw new TooLarge();
    }

    int removeUseless() {
        int before = grammar.size();
        Set<Character> productive = derivable(grammar, TERMINALS);
        grammar.removeIf(p -> p.chars().anyMatch(c -> isNonterminal((char) c) && !productive.contains((char) c)));
        Set<Character> reachable = reachable(grammar);
        grammar.removeIf(p -> !reachable.contains(p.charAt(0)));
        return before - grammar.size();
    }

    int removeEmpty() {
        Set<Character> nullable = derivable(grammar, "");
        TreeSet<String> result = newGrammar();
        for (String production : grammar) {
            Set<String> sides = new HashSet<>(Set.of(""));
            for (char c : right(production).toCharArray()) {
                Set<String> next = new HashSet<>();
                for (String side : sides) {
                    next.add(side + c);
                    if (nullable.contains(c)) {
                        next.add(side);
                    }
                }
                sides = next;
            }
            sides.remove("");
            for (String side : sides) {
                result.add(production.charAt(0) + side);
            }
        }
        return replaceBy(result);
    }

    private int replaceBy(TreeSet<String> result) {
        if (result.size() > 60) {
            return -7;
        }
        grammar = result;
        return grammar.size();
    }

    int removeUnits() {
        TreeSet<String> result = newGrammar();
        for (char x : NONTERMINALS.toCharArray()) {
            for (char y : unitClosure(x)) {
                for (String production : grammar) {
                    if (production.charAt(0) == y && !isUnit(production)) {
                        result.add(x + right(production));
                    }
                }
            }
        }
        return replaceBy(result);
    }

    private static TreeSet<String> copyOf(Set<String> productions) {
        TreeSet<String> copy = newGrammar();
        copy.addAll(productions);
        return copy;
    }

    int toChomsky() {
        if (grammar.stream().anyMatch(p -> p.length() == 1 || isUnit(p))) {
            return -8;
        }
        try {
            TreeSet<String> copy = copyOf(grammar);
            for (char t : TERMINALS.toCharArray()) {
                TreeSet<String> old = copyOf(copy);
                if (old.stream().anyMatch(p -> p.length() > 2 && p.indexOf(t) >= 0)) {
                    char z = free(old);
                    copy.clear();
                    for (String p : old) {
                        copy.add(p.length() > 2 ? p.replace(t, z) : p);
                    }
                    copy.add("" + z + t);
                    check(copy);
                }
            }
            while (copy.stream().anyMatch(p -> p.length() > 3)) {
                String p = copy.stream().filter(q -> q.length() > 3).findFirst().get();
                char z = free(copy);
                copy.remove(p);
                copy.add(p.substring(0, 2) + z);
                copy.add(z + p.substring(2));
                check(copy);
            }
            grammar = copy;
            return grammar.size();
        } catch (TooLarge e) {
            return -7;
        }
    }

    private static void recursionSteps(TreeSet<String> copy) {
        List<Character> xs = new ArrayList<>();
        for (String p : copy) {
            if (!xs.contains(p.charAt(0))) {
                xs.add(p.charAt(0));
            }
        }
        for (int i = 0; i < xs.size(); i++) {
            for (int j = 0; j < i; j++) {
                substitute(copy, xs.get(i), xs.get(j));
                check(copy);
            }
            directStep(copy, xs.get(i));
            check(copy);
        }
    }

    private static void substitute(TreeSet<String> copy, char xi, char xj) {
        TreeSet<String> old = copyOf(copy);
        String head = "" + xi + xj;
        copy.removeIf(p -> p.startsWith(head));
        for (String p : old) {
            for (String q : old) {
                if (p.startsWith(head) && q.charAt(0) == xj) {
                    copy.add(xi + right(q) + p.substring(2));
                }
            }
        }
    }

    private static void directStep(TreeSet<String> copy, char x) {
        String twice = "" + x + x;
        copy.remove(twice);
        if (copy.stream().noneMatch(p -> p.startsWith(twice))) {
            return;
        }
        char z = free(copy);
        TreeSet<String> old = copyOf(copy);
        copy.removeIf(p -> p.startsWith(twice));
        for (String p : old) {
            if (p.startsWith(twice)) {
                copy.add(z + p.substring(2));
                copy.add(z + p.substring(2) + z);
            } else if (p.charAt(0) == x) {
                copy.add(p + z);
            }
        }
    }

    int removeLeftRecursion() {
        if (isEndless()) {
            return -8;
        }
        try {
            TreeSet<String> copy = copyOf(grammar);
            recursionSteps(copy);
            grammar = copy;
            return grammar.size();
        } catch (TooLarge e) {
            return -7;
        }
    }

    int leftFactor() {
        try {
            TreeSet<String> copy = copyOf(grammar);
            String head = sharedHead(copy);
            while (head != null) {
                String start = head;
                List<String> shared = new ArrayList<>(copy);
                shared.removeIf(p -> !p.startsWith(start));
                String prefix = shared.get(0);
                for (String p : shared) {
                    while (!p.startsWith(prefix)) {
                        prefix = prefix.substring(0, prefix.length() - 1);
                    }
                }
                char z = free(copy);
                copy.removeAll(shared);
                copy.add(prefix + z);
                for (String p : shared) {
                    copy.add(z + p.substring(prefix.length()));
                }
                check(copy);
                head = sharedHead(copy);
            }
            grammar = copy;
            return grammar.size();
        } catch (TooLarge e) {
            return -7;
        }
    }

    private static String sharedHead(Set<String> copy) {
        for (char x : NONTERMINALS.toCharArray()) {
            for (char s : ORDER.toCharArray()) {
                String head = "" + x + s;
                if (copy.stream().filter(p -> p.startsWith(head)).count() > 1) {
                    return head;
                }
            }
        }
        return null;
    }

    int toGreibach() {
        if (isEndless()) {
            return -8;
        }
        try {
            TreeSet<String> copy = copyOf(grammar);
            recursionSteps(copy);
            expandSteps(copy);
            for (char t : TERMINALS.toCharArray()) {
                TreeSet<String> old = copyOf(copy);
                if (old.stream().anyMatch(p -> p.indexOf(t, 2) >= 0)) {
                    char z = free(old);
                    copy.clear();
                    for (String p : old) {
                        copy.add(p.substring(0, 2) + p.substring(2).replace(t, z));
                    }
                    copy.add("" + z + t);
                    check(copy);
                }
            }
            grammar = copy;
            return grammar.size();
        } catch (TooLarge e) {
            return -7;
        }
    }

    private void expandSteps(TreeSet<String> copy) {
        String p = firstToExpand(copy);
        for (expansions = 0; p != null; expansions++) {
            TreeSet<String> old = copyOf(copy);
            copy.remove(p);
            for (String q : old) {
                if (q.charAt(0) == p.charAt(1)) {
                    copy.add(p.charAt(0) + right(q) + p.substring(2));
                }
            }
            check(copy);
            p = firstToExpand(copy);
        }
    }

    private static String firstToExpand(Set<String> copy) {
        for (String p : copy) {
            if (p.length() > 1 && isNonterminal(p.charAt(1))) {
                return p;
            }
        }
        return null;
    }

    // ---- comparing

    int save() {
        saved = copyOf(grammar);
        return saved.size();
    }

    int restore() {
        if (saved == null) {
            return -9;
        }
        grammar = copyOf(saved);
        return grammar.size();
    }

    private static Set<String> words(Set<String> productions, int length) {
        Set<String> words = languages(productions, null, length).get('A');
        words.removeIf(w -> w.length() != length);
        return words;
    }

    int countWords(int length) {
        return length < 0 || length > 2 ? -6 : words(grammar, length).size();
    }

    int countDifferences(int length) {
        if (length < 0 || length > 2) {
            return -6;
        }
        if (saved == null) {
            return -9;
        }
        Set<String> mine = words(grammar, length);
        Set<String> theirs = words(saved, length);
        Set<String> both = new HashSet<>(mine);
        both.retainAll(theirs);
        return mine.size() + theirs.size() - 2 * both.size();
    }

    long digest() {
        List<Integer> values = new ArrayList<>();
        values.add(grammar.size());
        for (String p : grammar) {
            values.add(p.length() - 1);
            p.chars().forEach(values::add);
        }
        values.addAll(Arrays.asList(nullableSet(), productiveSet(), reachableSet(), leftRecursiveSet()));
        values.addAll(Arrays.asList(firstSet(0), followSet(0), firstSet(1), followSet(1)));
        values.addAll(Arrays.asList(isLl1(), isChomsky(), isGreibach()));
        values.addAll(Arrays.asList(countWords(0), countWords(1), countWords(2)));
        values.add(saved == null ? -9 : saved.size());
        values.add(buffer.length());
        buffer.chars().forEach(values::add);
        BigInteger hash = BigInteger.valueOf(1811);
        for (int value : values) {
            hash = hash.multiply(BigInteger.valueOf(31)).add(BigInteger.valueOf(value));
        }
        return hash.longValue();
    }

    String text() {
        return String.join(" ", grammar);
    }
}
