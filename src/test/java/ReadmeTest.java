import java.io.IOException;
import java.io.PrintWriter;
import java.io.StringWriter;
import java.lang.reflect.Field;
import java.lang.reflect.Method;
import java.lang.reflect.Modifier;
import java.net.URL;
import java.net.URLClassLoader;
import java.nio.file.Files;
import java.nio.file.Path;
import java.util.ArrayList;
import java.util.List;
import java.util.Optional;
import java.util.regex.Matcher;
import java.util.regex.Pattern;
import java.util.spi.ToolProvider;

/**
 * Runs the examples of README.md as one program and holds each call's answer against the one that the page
 * gives behind "//"; and looks whether the page names every call, and every constant with its number.
 * It is run from the project's root.
 */
public final class ReadmeTest {
    private static final Path PAGE = Path.of("README.md");
    private static final Pattern BLOCK = Pattern.compile("(?ms)^```java\n(.*?)^```$");
    private static final Pattern MAKING = Pattern.compile("FerryTimetable port = new FerryTimetable\\(\\);");
    private static final Pattern CALL = Pattern.compile("(?:int (\\w+) = )?(port\\.\\w+\\(.*\\)); +// (-?\\d+|[A-Z_]+)(?::.*)?");
    private static final String PROGRAM = "ReadmeProgram";

    private ReadmeTest() {
    }

    public static void main(String[] args) throws IOException, ReflectiveOperationException {
        String page = Files.readString(PAGE);
        examples(page);
        names(page);
        Check.finish();
    }

    private static void examples(String page) throws IOException, ReflectiveOperationException {
        Check.part("Examples");
        StringBuilder program = new StringBuilder("public final class " + PROGRAM + " {\n"
                + "public static void run(java.util.List<Integer> answers) {\n");
        List<String> calls = new ArrayList<>();
        List<String> due = new ArrayList<>();
        Matcher block = BLOCK.matcher(page);
        while (block.find()) {
            for (String line : block.group(1).lines().filter(row -> !row.isBlank()).toList()) {
                takeLine(line, program, calls, due);
            }
        }
        Check.holds("the page has examples", calls.size() > 30);
        List<Integer> answers = answersOf(program.append("}\n}\n").toString());
        Check.due("number of answers", calls.size(), answers.size());
        for (int i = 0; i < Math.min(calls.size(), answers.size()); i++) {
            Check.due(calls.get(i), numberOf(due.get(i)), answers.get(i));
        }
    }

    private static void takeLine(String line, StringBuilder program, List<String> calls, List<String> due) {
        Matcher call = CALL.matcher(line);
        if (call.matches()) {
            String name = call.group(1) == null ? "answer" + calls.size() : call.group(1);
            program.append("int ").append(name).append(" = ").append(call.group(2)).append(";\n");
            program.append("answers.add(").append(name).append(");\n");
            calls.add(call.group(2));
            due.add(call.group(3));
        } else {
            Check.holds("a line of the page that is a call with its answer: " + line, MAKING.matcher(line).matches());
            program.append(line).append("\n");
        }
    }

    /** Compiles the program beside the tests and runs it there. */
    private static List<Integer> answersOf(String program) throws IOException, ReflectiveOperationException {
        List<Integer> answers = new ArrayList<>();
        String classes = System.getProperty("java.class.path");
        Path folder = Path.of(classes).resolveSibling("readme");
        Files.createDirectories(folder);
        Path source = folder.resolve(PROGRAM + ".java");
        Files.writeString(source, program);
        Optional<ToolProvider> javac = ToolProvider.findFirst("javac");
        Check.holds("javac is here", javac.isPresent());
        if (javac.isEmpty()) {
            return answers;
        }
        StringWriter said = new StringWriter();
        PrintWriter printer = new PrintWriter(said);
        int code = javac.get().run(printer, printer, "-cp", classes, "-d", folder.toString(), source.toString());
        Check.holds("the examples compile: " + said, code == 0);
        if (code == 0) {
            try (URLClassLoader loader = new URLClassLoader(new URL[] {folder.toUri().toURL()}, ReadmeTest.class.getClassLoader())) {
                loader.loadClass(PROGRAM).getMethod("run", List.class).invoke(null, answers);
            }
        }
        return answers;
    }

    private static int numberOf(String due) throws ReflectiveOperationException {
        return Character.isLetter(due.charAt(0)) ? FerryTimetable.class.getField(due).getInt(null) : Integer.parseInt(due);
    }

    private static void names(String page) throws IllegalAccessException {
        Check.part("What the page names");
        for (Method method : FerryTimetable.class.getDeclaredMethods()) {
            if (Modifier.isPublic(method.getModifiers())) {
                Check.holds("the page names " + method.getName(), page.contains("`" + method.getName() + "`"));
            }
        }
        for (Field field : FerryTimetable.class.getFields()) {
            Check.holds("the page has a row for " + field.getName(),
                    page.contains("| `" + field.getName() + "` | " + field.getInt(null) + " |"));
        }
    }
}
