import java.util.ArrayList;
import java.util.List;
import java.util.Map;
import java.util.Random;
import java.util.TreeMap;

/**
 * Runs of random calls on the class and on the model, which must answer alike. Two arguments, the
 * first seed and the number of runs, make it longer; a third shows what was met.
 */
public final class ModelTest {
    private static final Map<String, Integer> met = new TreeMap<>();
    private static final List<String> log = new ArrayList<>();
    private static int wrong = 0;

    private GrammarReshaper tool = new GrammarReshaper();
    private Model model = new Model();
    private final Random random;
    private int calls = 0;

    private ModelTest(long seed) {
        random = new Random(seed);
    }

    public static void main(String[] args) {
        long first = args.length > 0 ? Long.parseLong(args[0]) : 1;
        int runs = args.length > 1 ? Integer.parseInt(args[1]) : 150;
        for (long seed = first; seed < first + runs && wrong < 5; seed++) {
            log.clear();
            new ModelTest(seed).run(seed);
        }
        if (args.length > 2) {
            met.forEach((what, times) -> System.out.println(what + ": " + times));
        }
        System.out.println(wrong == 0 ? "class and model answer alike" : wrong + " answers differ");
        if (wrong != 0) {
            System.exit(1);
        }
    }

    private boolean same(String call, long got, long want) {
        calls++;
        log.add(call + " = " + got);
        String kind = call.substring(0, call.indexOf('('));
        met.merge(kind + (want < 0 && want > -10 ? " " + want : ""), 1, Integer::sum);
        if (got != want) {
            wrong++;
            System.out.println(log);
            System.out.println(call + " answered " + got + ", the model " + want + " at " + model.text());
        }
        return got == want;
    }

    private void run(long seed) {
        boolean alike = true;
        while (alike && calls < 512) {
            alike = switch (random.nextInt(12)) {
                case 0, 1 -> write(randomGrammar()) && same("load()", tool.load(), model.load());
                case 2 -> clear() && write(randomWord()) && parse();
                case 3 -> write(randomNoise());
                case 4, 5, 6, 7 -> transform(random.nextInt(7));
                case 8 -> compare();
                case 9 -> look();
                default -> property(random.nextInt(20) - 2);
            };
            alike = alike && same("digest()", tool.digest(), model.digest());
        }
    }

    private boolean clear() {
        return same("clearInput()", tool.clearInput(), model.clearInput());
    }

    private boolean write(String text) {
        boolean alike = random.nextInt(20) == 0 || clear();
        for (char c : text.toCharArray()) {
            alike = alike && same("append(" + (int) c + ")", tool.append(c), model.append(c));
        }
        return alike && same("firstError()", tool.firstError(), model.firstError());
    }

    private boolean parse() {
        return same("accepts()", tool.accepts(), model.accepts())
            && same("countTrees()", tool.countTrees(), model.countTrees());
    }

    private boolean transform(int kind) {
        return switch (kind) {
            case 0 -> same("removeUseless()", tool.removeUseless(), model.removeUseless());
            case 1 -> same("removeEmpty()", tool.removeEmpty(), model.removeEmpty());
            case 2 -> same("removeUnits()", tool.removeUnits(), model.removeUnits());
            case 3 -> same("toChomsky()", tool.toChomsky(), model.toChomsky());
            case 4 -> same("removeLeftRecursion()", tool.removeLeftRecursion(), model.removeLeftRecursion());
            case 5 -> same("leftFactor()", tool.leftFactor(), model.leftFactor());
            default -> greibach();
        };
    }

    private boolean greibach() {
        boolean alike = same("toGreibach()", tool.toGreibach(), model.toGreibach());
        met.merge("most expansions", model.expansions, Math::max);
        return alike;
    }

    private boolean compare() {
        int length = random.nextInt(5) - 1;
        return switch (random.nextInt(6)) {
            case 0 -> same("save()", tool.save(), model.save());
            case 1 -> same("restore()", tool.restore(), model.restore());
            case 2 -> same("countWords(" + length + ")", tool.countWords(length), model.countWords(length));
            default -> same("countDifferences(" + length + ")", tool.countDifferences(length), model.countDifferences(length));
        };
    }

    private boolean look() {
        int production = random.nextInt(model.productionCount() + 3) - 1;
        int index = random.nextInt(12) - 1;
        return same("productionCount()", tool.productionCount(), model.productionCount())
            && same("symbol(" + production + ", " + index + ")", tool.symbol(production, index), model.symbol(production, index));
    }

    private boolean property(int x) {
        return switch (random.nextInt(10)) {
            case 0 -> same("nullableSet()", tool.nullableSet(), model.nullableSet());
            case 1 -> same("productiveSet()", tool.productiveSet(), model.productiveSet());
            case 2 -> same("reachableSet()", tool.reachableSet(), model.reachableSet());
            case 3 -> same("leftRecursiveSet()", tool.leftRecursiveSet(), model.leftRecursiveSet());
            case 4 -> same("unitReach(" + x + ")", tool.unitReach(x), model.unitReach(x));
            case 5 -> same("firstSet(" + x + ")", tool.firstSet(x), model.firstSet(x));
            case 6 -> same("followSet(" + x + ")", tool.followSet(x), model.followSet(x));
            case 7 -> same("isLl1()", tool.isLl1(), model.isLl1());
            case 8 -> same("isChomsky()", tool.isChomsky(), model.isChomsky());
            default -> same("isGreibach()", tool.isGreibach(), model.isGreibach());
        };
    }

    private char nonterminal(int kinds) {
        return (char) ('A' + random.nextInt(kinds));
    }

    private String randomGrammar() {
        return switch (random.nextInt(8)) {
            case 0 -> vanishingGrammar();
            case 1 -> unitGrammar();
            default -> mixedGrammar();
        };
    }

    /** Long right sides of nonterminals that are mostly nullable. */
    private String vanishingGrammar() {
        int nonterminals = 2 + random.nextInt(7);
        StringBuilder text = new StringBuilder("A:");
        for (int i = 8 + random.nextInt(8); i > 0; i--) {
            text.append(random.nextInt(9) == 0 ? '|' : nonterminal(nonterminals));
        }
        for (int i = 1; i < nonterminals; i++) {
            text.append(";").append((char) ('A' + i)).append(random.nextInt(6) == 0 ? ":a" : ":|b");
        }
        return text.toString().replaceAll("([A-Z]{8})([A-Z])", "$1|$2");
    }

    /** Chains of units and many other right sides at their ends. */
    private String unitGrammar() {
        int nonterminals = 2 + random.nextInt(9);
        StringBuilder text = new StringBuilder();
        for (int i = 0; i < nonterminals; i++) {
            text.append(i == 0 ? "" : ";").append((char) ('A' + i)).append(':').append(nonterminal(nonterminals));
        }
        while (text.length() < 57) {
            text.append('|').append((char) ('a' + random.nextInt(8)));
            if (random.nextBoolean()) {
                text.append(nonterminal(nonterminals));
            }
        }
        return text.toString();
    }

    private String mixedGrammar() {
        int nonterminals = 1 + random.nextInt(random.nextInt(4) == 0 ? 16 : 5);
        int terminals = 1 + random.nextInt(random.nextInt(4) == 0 ? 8 : 3);
        int longest = 1 + random.nextInt(random.nextInt(6) == 0 ? 9 : 4);
        boolean empties = random.nextInt(3) == 0;
        int most = 5 + random.nextInt(56);
        StringBuilder text = new StringBuilder();
        for (int group = 0; text.length() < most - 3; group++) {
            text.append(group == 0 ? "" : ";");
            text.append(group < nonterminals ? (char) ('A' + group) : nonterminal(nonterminals)).append(':');
            int sides = 1 + random.nextInt(4);
            for (int side = 0; side < sides; side++) {
                text.append(side == 0 ? "" : "|");
                int length = empties ? random.nextInt(longest + 1) : 1 + random.nextInt(longest);
                for (int i = 0; i < length; i++) {
                    text.append(random.nextBoolean() ? nonterminal(nonterminals) : (char) ('a' + random.nextInt(terminals)));
                }
            }
        }
        text.setLength(Math.min(text.length(), most));
        if (!empties) {
            while (text.length() > 0 && ":|;".indexOf(text.charAt(text.length() - 1)) >= 0) {
                text.setLength(text.length() - 1);
            }
        }
        return text.toString();
    }

    private String randomWord() {
        StringBuilder word = new StringBuilder();
        int length = random.nextInt(13);
        int terminals = 1 + random.nextInt(random.nextInt(3) == 0 ? 9 : 2);
        for (int i = 0; i < length; i++) {
            word.append((char) ('a' + random.nextInt(terminals)));
        }
        return word.toString();
    }

    private String randomNoise() {
        String signs = random.nextBoolean() ? "ABa:|;" : "APQahi:|;@`~ 0\u001f\u007f";
        StringBuilder noise = new StringBuilder(random.nextBoolean() ? "A:" : "");
        int length = random.nextInt(random.nextInt(5) == 0 ? 70 : 12);
        for (int i = 0; i < length; i++) {
            noise.append(signs.charAt(random.nextInt(signs.length())));
        }
        return noise.toString();
    }
}
