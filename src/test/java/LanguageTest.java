import java.io.IOException;
import java.io.PrintWriter;
import java.io.StringWriter;
import java.nio.file.Files;
import java.nio.file.Path;
import java.util.ArrayList;
import java.util.HashMap;
import java.util.HashSet;
import java.util.List;
import java.util.Map;
import java.util.Optional;
import java.util.Set;
import java.util.TreeSet;
import java.util.regex.Matcher;
import java.util.regex.Pattern;
import java.util.spi.ToolProvider;

/**
 * Rules of LANGUAGE.md that can be seen in the source and in the bytecode: what is used, how long the
 * methods are, and how deep the calls go. It is run from the project's root.
 */
public final class LanguageTest {
    private static final Path SOURCE = Path.of("src/main/java/FerryTimetable.java");
    private static final String[] FORBIDDEN = {"import", "package", "throw", "throws", "try", "catch", "finally",
        "synchronized", "assert", "instanceof", "yield", "var", "double", "long", "Float", "Double", "Object",
        "Integer", "String", "equals", "hashCode", "toString", "protected", "volatile", "transient", "native"};
    private static final Set<String> LIBRARY = Set.of("java/lang/Math.min", "java/lang/Math.max",
            "java/lang/System.arraycopy", "java/lang/Object.\"<init>\"");
    private static final int DEEPEST = 8;
    private static final int LONGEST = 60;

    private LanguageTest() {
    }

    public static void main(String[] args) throws IOException {
        String code = withoutComments(Files.readString(SOURCE));
        words(code);
        methodLengths(code);
        Optional<ToolProvider> javap = ToolProvider.findFirst("javap");
        if (javap.isPresent()) {
            bytecode(javap.get());
        } else {
            System.out.println("no javap here: the calls are not looked at");
        }
        Check.finish();
    }

    private static String withoutComments(String source) {
        return source.replaceAll("(?s)/\\*.*?\\*/", "").replaceAll("//[^\n]*", "");
    }

    private static void words(String code) {
        Check.part("Rules 3 to 6");
        for (String word : FORBIDDEN) {
            Check.holds("no " + word, !Pattern.compile("\\b" + word + "\\b").matcher(code).find());
        }
        Check.holds("no lambda", !code.contains("->"));
        Check.holds("no method reference", !code.contains("::"));
        Check.holds("no text", !code.contains("\""));
        Check.holds("no initialiser block", !Pattern.compile("static\\s*\\{").matcher(code).find());
        Check.holds("signs 1 to 127 alone", code.chars().allMatch(sign -> sign > 0 && sign < 128));
        Check.due("number of outer classes", 1, count(code, "(?m)^(public )?(final )?(class|interface|enum|record) "));
        // an object made by a call would be counted at every call: all are made in constructors
        Check.due("new outside constructors", 0, count(withoutConstructors(code), "\\bnew\\b"));
    }

    private static String withoutConstructors(String code) {
        return code.replaceAll("(?sm)^( +)(public )?[A-Z]\\w+\\([^)]*\\) \\{.*?^\\1\\}", "");
    }

    private static int count(String code, String pattern) {
        Matcher matcher = Pattern.compile(pattern).matcher(code);
        int sum = 0;
        while (matcher.find()) {
            sum++;
        }
        return sum;
    }

    private static void methodLengths(String code) {
        Check.part("Rule 11, lengths");
        Matcher method = Pattern.compile("(?sm)^( +)[^\n;=]*\\([^)]*\\) \\{\n.*?^\\1\\}").matcher(code);
        int methods = 0;
        while (method.find()) {
            methods++;
            String text = method.group();
            Check.holds("short: " + text.substring(0, text.indexOf('\n')).trim(), text.lines().count() <= LONGEST);
        }
        Check.holds("methods were found", methods > 100);
    }

    private static void bytecode(ToolProvider javap) throws IOException {
        Check.part("Rules 4, 8 and 11, calls");
        Map<String, Set<String>> calls = new HashMap<>();
        Set<String> outside = new TreeSet<>();
        for (Path file : classFiles()) {
            StringWriter out = new StringWriter();
            PrintWriter printer = new PrintWriter(out);
            Check.due("javap", 0, javap.run(printer, printer, "-c", "-p", file.toString()));
            readCalls(out.toString(), file.getFileName().toString().replace(".class", ""), calls, outside);
        }
        Check.holds("methods were found", calls.size() > 100);
        outside.removeAll(LIBRARY);
        Check.holds("nothing of the library but what is listed: " + outside, outside.isEmpty());
        Map<String, Integer> depths = new HashMap<>();
        for (String method : calls.keySet()) {
            int depth = depthOf(method, calls, depths, new HashSet<>());
            Check.holds(method + " goes at most " + DEEPEST + " deep, not " + depth, depth <= DEEPEST);
        }
    }

    private static List<Path> classFiles() throws IOException {
        Path folder = Path.of(System.getProperty("java.class.path"));
        List<Path> files = new ArrayList<>();
        try (var found = Files.newDirectoryStream(folder, "FerryTimetable{,$*}.class")) {
            found.forEach(files::add);
        }
        return files;
    }

    private static void readCalls(String text, String type, Map<String, Set<String>> calls, Set<String> outside) {
        Pattern heading = Pattern.compile("^  \\S.*?([\\w$]+)\\([^)]*\\);$");
        Pattern invoke = Pattern.compile("invoke\\w+ .*// (?:Interface)?Method ([^:]+):");
        String method = "";
        for (String row : text.lines().toList()) {
            Matcher head = heading.matcher(row);
            if (head.matches()) {
                String name = head.group(1);
                method = type + "." + (name.equals(type) ? "\"<init>\"" : name);
                calls.putIfAbsent(method, new HashSet<>());
            }
            Matcher call = invoke.matcher(row);
            if (call.find()) {
                String target = call.group(1).contains(".") ? call.group(1) : type + "." + call.group(1);
                if (target.startsWith("FerryTimetable")) {
                    calls.get(method).add(target);
                } else {
                    outside.add(target);
                }
            }
        }
    }

    /** A method that is met while it is still open calls itself: that counts as too deep. */
    private static int depthOf(String method, Map<String, Set<String>> calls, Map<String, Integer> depths, Set<String> open) {
        if (depths.containsKey(method)) {
            return depths.get(method);
        }
        if (!open.add(method)) {
            return DEEPEST + 1;
        }
        int deepest = 0;
        for (String target : calls.getOrDefault(method, Set.of())) {
            deepest = Math.max(deepest, depthOf(target, calls, depths, open));
        }
        open.remove(method);
        depths.put(method, deepest + 1);
        return deepest + 1;
    }
}
