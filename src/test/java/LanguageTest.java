import java.io.IOException;
import java.lang.reflect.Field;
import java.lang.reflect.Method;
import java.lang.reflect.Modifier;
import java.nio.file.Files;
import java.nio.file.Path;
import java.util.Arrays;
import java.util.List;
import java.util.TreeSet;
import java.util.regex.Matcher;
import java.util.regex.Pattern;

/** The face of the class, and those rules of LANGUAGE.md that can be seen in its text. Run at the project's root. */
public final class LanguageTest {
    private static final String FACE = "int append(int) int clearInput() int firstError() int load() int accepts() long countTrees() "
        + "int productionCount() int symbol(int,int) int nullableSet() int productiveSet() int reachableSet() int leftRecursiveSet() "
        + "int unitReach(int) int firstSet(int) int followSet(int) int isLl1() int isChomsky() int isGreibach() int removeUseless() "
        + "int removeEmpty() int removeUnits() int toChomsky() int removeLeftRecursion() int leftFactor() int toGreibach() "
        + "int save() int restore() int countWords(int) int countDifferences(int) long digest()";
    private static final String CONSTANTS = "NONE BAD_CHARACTER BUFFER_FULL INVALID_INPUT NO_SUCH_PRODUCTION OUT_OF_RANGE TOO_LARGE "
        + "NOT_ALLOWED NOTHING_SAVED";
    private static final List<String> LIBRARY = List.of("Arrays.fill", "System.arraycopy", "Math.min", "Integer.bitCount", "Long.bitCount");

    private LanguageTest() {
    }

    public static void main(String[] args) throws IOException {
        face();
        classesInside();
        String source = Files.readString(Path.of("src/main/java/GrammarReshaper.java"));
        words(source.replaceAll("(?s)/\\*.*?\\*/", "").replaceAll("//[^\n]*", ""));
        methods(source);
        Check.finish();
    }

    private static void face() {
        TreeSet<String> methods = new TreeSet<>();
        for (Method method : GrammarReshaper.class.getDeclaredMethods()) {
            if (!Modifier.isPrivate(method.getModifiers())) {
                String text = method.toString().replaceAll("GrammarReshaper\\.", "");
                methods.add(text.replaceFirst("^public ", ""));
            }
        }
        Check.due("methods", methods.toString(), new TreeSet<>(List.of(FACE.split(" (?=int |long )"))).toString());
        TreeSet<String> constants = new TreeSet<>();
        for (Field field : GrammarReshaper.class.getDeclaredFields()) {
            if (!Modifier.isPrivate(field.getModifiers())) {
                constants.add(field.getName());
                Check.due(field.getName(), Modifier.toString(field.getModifiers()), "public static final");
            }
        }
        Check.due("constants", constants.toString(), new TreeSet<>(List.of(CONSTANTS.split(" "))).toString());
        Check.due("constructors", Arrays.toString(GrammarReshaper.class.getDeclaredConstructors()), "[public GrammarReshaper()]");
        Check.due("class", Modifier.toString(GrammarReshaper.class.getModifiers()), "public final");
    }

    private static void classesInside() {
        Class<?>[] inside = GrammarReshaper.class.getDeclaredClasses();
        Check.due("classes", inside.length <= 12 ? 1 : 0, 1);
        for (Class<?> one : inside) {
            Check.due(one.getName(), Modifier.toString(one.getModifiers()), "private static final");
            for (Method method : one.getDeclaredMethods()) {
                Check.due(method + " is a name of the face", FACE.contains(" " + method.getName() + "(") ? 1 : 0, 0);
            }
            for (Field field : one.getDeclaredFields()) {
                boolean changing = Modifier.isStatic(field.getModifiers()) && !Modifier.isFinal(field.getModifiers());
                Check.due(field + " is static and changes", changing ? 1 : 0, 0);
            }
        }
    }

    private static void words(String code) {
        Matcher word = Pattern.compile("\\b(throw|throws|try|catch|synchronized|assert|package|double|float|Exact|hashCode|toString|"
            + "null|Object|Integer\\.valueOf|System\\.out)\\b|->|::|@").matcher(code);
        while (word.find()) {
            Check.due("use of " + word.group(), 1, 0);
        }
        Matcher imported = Pattern.compile("import ([^;]*);").matcher(code);
        while (imported.find()) {
            Check.due("import", imported.group(1), "java.util.Arrays");
        }
        Matcher called = Pattern.compile("\\b(Arrays|System|Math|Integer|Long|String|StringBuilder|Character|Boolean)\\.\\w+").matcher(code);
        while (called.find()) {
            Check.due("rule 4 and " + called.group(), LIBRARY.contains(called.group()) ? 1 : 0, 1);
        }
    }

    private static void methods(String source) {
        String[] lines = source.split("\n");
        int start = 0;
        for (int i = 0; i < lines.length; i++) {
            Check.due("length of line " + (i + 1), lines[i].length() <= 130 || lines[i].contains("BUFFER_FULL = -3") ? 1 : 0, 1);
            if (lines[i].matches(" {4,8}[A-Za-z].*\\) \\{")) {
                start = i;
                Check.due("parameters in line " + (i + 1), lines[i].split(",").length <= 7 ? 1 : 0, 1);
                // Rows are made once, in constructors, so that a run of calls makes nothing.
            } else if (lines[i].matches("    (    )?\\}")) {
                Check.due("lines of the method at " + (start + 1), i - start <= 60 || lines[i].equals("    }") ? 1 : 0, 1);
            } else if (lines[i].contains("= new ")) {
                boolean isConstructor = lines[start].matches(" +(public )?[A-Z][A-Za-z]*\\(\\) \\{");
                Check.due("object made in line " + (i + 1), isConstructor ? 0 : 1, 0);
            }
        }
    }
}
