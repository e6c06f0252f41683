import java.io.IOException;
import java.lang.reflect.Method;
import java.lang.reflect.Modifier;
import java.nio.charset.StandardCharsets;
import java.nio.file.Files;
import java.nio.file.Path;
import java.util.ArrayList;
import java.util.List;
import java.util.TreeSet;
import java.util.regex.Matcher;
import java.util.regex.Pattern;

/**
 * What README.md shows: its program is compiled and run by its own commands, and its calls are played
 * as one run, compiled as they stand. It runs in the project's folder.
 */
public final class ReadmeTest {
    private static final Path CLASS_FILE = Path.of("src/main/java/RoadOracle.java");
    private static final Pattern BLOCK = Pattern.compile("(?m)^```(\\w*)\n((?s:.*?)\n)```$");
    private static final Pattern PROGRAM = Pattern.compile("public class (\\w+) ");
    /** A call, and behind the two strokes its answer; a colon begins what is said of it. */
    private static final Pattern CALL =
            Pattern.compile("(oracle\\.(\\w+)\\([^;]*\\)); +// ([^:]+?)(?:: .*)?");
    private static final String NEW_OBJECT = "RoadOracle oracle = new RoadOracle();";

    private static final Check check = new Check();
    private static final List<String> languages = new ArrayList<>();
    private static final List<String> bodies = new ArrayList<>();

    public static void main(String[] args) throws IOException, InterruptedException {
        Matcher block = BLOCK.matcher(Files.readString(Path.of("README.md"), StandardCharsets.UTF_8));
        while (block.find()) {
            languages.add(block.group(1));
            bodies.add(block.group(2));
        }
        Path folder = Files.createTempDirectory("readme");
        try {
            Path copy = folder.resolve(CLASS_FILE);
            Files.createDirectories(copy.getParent());
            Files.copy(CLASS_FILE, copy);
            theProgram(folder);
            theCalls(folder);
        } finally {
            delete(folder);
        }
        check.finish("ReadmeTest");
    }

    private static void theProgram(Path folder) throws IOException, InterruptedException {
        int at = 0;
        while (at < bodies.size() && !PROGRAM.matcher(bodies.get(at)).find()) {
            at++;
        }
        check.same("a program, its commands and what they print", at + 2 < bodies.size(), true);
        Matcher program = PROGRAM.matcher(bodies.get(at));
        check.same("a program", program.find(), true);
        Files.writeString(folder.resolve(program.group(1) + ".java"), bodies.get(at));
        StringBuilder printed = new StringBuilder();
        for (String command : bodies.get(at + 1).strip().split("\n")) {
            printed.append(run(folder, command));
        }
        same("the program", printed.toString(), bodies.get(at + 2));
    }

    private static void theCalls(Path folder) throws IOException, InterruptedException {
        List<String> calls = new ArrayList<>();
        List<String> due = new ArrayList<>();
        TreeSet<String> unseen = publicMethods();
        StringBuilder code = new StringBuilder();
        for (int i = 0; i < bodies.size(); i++) {
            if (!languages.get(i).equals("java") || PROGRAM.matcher(bodies.get(i)).find()) {
                continue;
            }
            for (String line : bodies.get(i).strip().split("\n")) {
                Matcher call = CALL.matcher(line);
                if (call.matches()) {
                    code.append("        show(() -> ").append(call.group(1)).append(");\n");
                    calls.add(call.group(1));
                    due.add(call.group(3));
                    unseen.remove(call.group(2));
                } else {
                    same("a line that is no call", line, NEW_OBJECT);
                    code.append("        ").append(line).append('\n');
                }
            }
        }
        check.same("methods that are not shown: " + unseen, unseen.size(), 0);
        Files.writeString(folder.resolve("Calls.java"), playing(code));
        String problems = run(folder, "javac -d calls " + CLASS_FILE + " Calls.java");
        same("compiling the calls", problems, "");
        String[] got = run(folder, "java -cp calls Calls").split("\n");
        check.same("answers", got.length, calls.size());
        for (int i = 0; i < Math.min(got.length, calls.size()); i++) {
            same(calls.get(i), got[i], due.get(i));
        }
    }

    private static String playing(CharSequence statements) {
        return "import java.util.function.Supplier;\n"
                + "public class Calls {\n"
                + "    static void show(Supplier<Object> call) {\n"
                + "        String answer;\n"
                + "        try {\n"
                + "            answer = String.valueOf(call.get());\n"
                + "        } catch (RuntimeException e) {\n"
                + "            answer = \"throws \" + e.getClass().getSimpleName();\n"
                + "        }\n"
                + "        System.out.println(answer);\n"
                + "    }\n"
                + "    public static void main(String[] args) {\n"
                + statements
                + "    }\n"
                + "}\n";
    }

    private static TreeSet<String> publicMethods() {
        TreeSet<String> names = new TreeSet<>();
        for (Method method : RoadOracle.class.getDeclaredMethods()) {
            if (Modifier.isPublic(method.getModifiers())) {
                names.add(method.getName());
            }
        }
        return names;
    }

    private static void same(String what, String got, String due) {
        check.same(what, 0, 0);
        if (!got.equals(due)) {
            check.complain(what + " answered " + got + ", due is " + due);
        }
    }

    /** Runs a command in the folder and returns what it prints. */
    private static String run(Path folder, String command) throws IOException, InterruptedException {
        Process process = new ProcessBuilder(command.strip().split(" +"))
                .directory(folder.toFile()).redirectErrorStream(true).start();
        String printed = new String(process.getInputStream().readAllBytes(), StandardCharsets.UTF_8);
        check.same(command + " ends with", process.waitFor(), 0);
        return printed.replace("\r\n", "\n");
    }

    private static void delete(Path path) throws IOException {
        if (Files.isDirectory(path)) {
            try (var inside = Files.newDirectoryStream(path)) {
                for (Path part : inside) {
                    delete(part);
                }
            }
        }
        Files.delete(path);
    }
}
