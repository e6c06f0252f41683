import java.io.IOException;
import java.lang.reflect.Field;
import java.lang.reflect.Method;
import java.lang.reflect.Modifier;
import java.nio.charset.StandardCharsets;
import java.nio.file.Files;
import java.nio.file.Path;
import java.util.ArrayList;
import java.util.List;
import java.util.Set;
import java.util.TreeMap;
import java.util.TreeSet;
import java.util.regex.Matcher;
import java.util.regex.Pattern;

/** What LANGUAGE.md rules out and a look at the text can find. It runs in the project's folder. */
public final class LanguageTest {
    private static final List<String> IMPORTS =
            List.of("import java.util.Arrays;", "import java.util.NoSuchElementException;");

    /** Words and signs that the program has no use for. */
    private static final String[] FORBIDDEN = {
        "->", "::", "\\btry\\b", "\\bcatch\\b", "\\bfinally\\b", "\\bsynchronized\\b", "\\bassert\\b",
        "\\bpackage\\b", "\\bthread", "Exact\\b", "\\bequals\\b", "\\bhashCode\\b", "\\btoString\\b",
        "\\bgetClass\\b", "\\bprotected\\b", "Math\\.(?!min\\(|max\\()", "System\\.(?!arraycopy\\()",
        "Arrays\\.(?!fill\\(|copyOf)", "\\bnull\\b", "\\bdo\\b", "(?m)^ *static \\{"
    };

    /** The head of a method or constructor, at its indentation, and all up to its closing bracket. */
    private static final Pattern METHOD = Pattern.compile(
            "(?ms)^( {4}| {8})((?:public |private |static |final )*)(\\w+(?:\\[\\])* )?(\\w+)\\(([^)]*)\\)"
            + "([^;{=]*)\\{\n(.*?)^\\1\\}");
    /** A loop whose counter goes up to a bound or down to 0. */
    private static final Pattern COUNTING = Pattern.compile(
            "for \\(int (\\w+) = [^;]+; (?:\\1 < [\\w.]+; \\1\\+\\+|\\1 >= 0; \\1--)\\) \\{");
    /** The two loops that end early, and what they count. */
    private static final String[] WHILES = {
        "while \\(road >= 0 && count < MAX_ROADS\\) \\{[^}]*\\bcount\\+\\+;[^}]*\\}",
        "while \\(index > 0 && [^{]*\\{[^}]*\\bindex--;[^}]*\\}"
    };

    private static final Check check = new Check();
    private static final TreeMap<String, String> methods = new TreeMap<>();

    public static void main(String[] args) throws IOException {
        String text = Files.readString(Path.of("src/main/java/RoadOracle.java"),
                StandardCharsets.ISO_8859_1);
        String code = text.replaceAll("(?s)/\\*.*?\\*/", "").replaceAll("//[^\n]*", "");
        theSigns(text);
        theWords(code);
        theLoops(code);
        theMethods(code);
        theCalls();
        theMembers();
        check.finish("LanguageTest");
    }

    private static void theSigns(String text) {
        for (char sign : text.toCharArray()) {
            check.same("a sign of the text is ASCII", sign < 128, true);
        }
    }

    private static void theWords(String code) {
        for (String word : FORBIDDEN) {
            check.same("the code has " + word, Pattern.compile(word).matcher(code).find(), false);
        }
        for (String line : code.split("\n")) {
            if (line.startsWith("import")) {
                check.same(line, IMPORTS.contains(line.strip()), true);
            }
        }
        Matcher thrown = Pattern.compile("throw (?!new \\w+Exception\\((\"[^\"]*\")?\\);)").matcher(code);
        check.same("every throw makes a plain exception", thrown.find(), false);
    }

    /** Rule 9: "Every loop has an end that can be seen from its own lines". */
    private static void theLoops(String code) {
        int loops = count(code, "\\bfor \\(");
        check.same("9: there are loops", loops > 10, true);
        check.same("9: for loops that count", count(code, COUNTING.pattern()), loops);
        check.same("9: while loops", count(code, "\\bwhile \\("), WHILES.length);
        for (String loop : WHILES) {
            check.same("9: " + loop, count(code, loop), 1);
        }
    }

    private static int count(String text, String pattern) {
        return (int) Pattern.compile(pattern).matcher(text).results().count();
    }

    /** Rule 6: "no throw in a constructor", rule 11: short methods; and new rows in constructors alone. */
    private static void theMethods(String code) {
        Matcher method = METHOD.matcher(code);
        while (method.find()) {
            String name = method.group(4);
            String body = method.group(7);
            boolean isConstructor = method.group(3) == null;
            check.same("11: the lines of " + name, body.split("\n").length <= 60, true);
            check.same("11: the parameters of " + name, method.group(5).split(",").length <= 7, true);
            if (isConstructor) {
                check.same("6: a throw in the constructor " + name, body.contains("throw "), false);
            } else {
                check.same("12: " + name + " makes only exceptions",
                        count(body, "\\bnew "), count(body, "\\bthrow new "));
                methods.put(name, methods.getOrDefault(name, "") + body);
            }
        }
        check.same("methods of the text", methods.size(), methodNames().size());
        check.same("methods by name", methods.keySet().equals(methodNames()), true);
    }

    private static Set<String> methodNames() {
        Set<String> names = new TreeSet<>();
        for (Class<?> type : classes()) {
            for (Method method : type.getDeclaredMethods()) {
                if (!method.isSynthetic()) {
                    names.add(method.getName());
                }
            }
        }
        return names;
    }

    private static List<Class<?>> classes() {
        List<Class<?>> all = new ArrayList<>(List.of(RoadOracle.class.getDeclaredClasses()));
        all.add(RoadOracle.class);
        return all;
    }

    /** Rules 8 and 11: no method calls itself, and "calls that are no recursion go at most eight deep". */
    private static void theCalls() {
        for (String name : methods.keySet()) {
            check.same("11: the calls of " + name + " go eight deep at most", depth(name, 1) <= 8, true);
        }
    }

    private static int depth(String name, int above) {
        int deepest = above;
        if (above <= 20) {
            for (String other : methods.keySet()) {
                if (count(methods.get(name), "\\b" + other + "\\(") > 0) {
                    deepest = Math.max(deepest, depth(other, above + 1));
                }
            }
        }
        return deepest;
    }

    /** Rule 11: at most some twelve classes, and some twenty fields in each; rule 5: no other static state. */
    private static void theMembers() {
        check.same("11: classes", classes().size() <= 12, true);
        for (Class<?> type : classes()) {
            int fields = 0;
            for (Field field : type.getDeclaredFields()) {
                boolean isStatic = Modifier.isStatic(field.getModifiers());
                fields += isStatic ? 0 : 1;
                check.same("5: " + field + " is a constant",
                        isStatic && !Modifier.isFinal(field.getModifiers()), false);
            }
            check.same("11: the fields of " + type, fields <= 20, true);
        }
    }
}
