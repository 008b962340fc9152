import java.io.IOException;
import java.nio.file.Files;
import java.nio.file.Path;
import java.util.ArrayList;
import java.util.List;
import java.util.Set;
import java.util.TreeSet;
import java.util.regex.Matcher;
import java.util.regex.Pattern;

/**
 * Holds the document's sentences against the words that the tests name with Check.sentence: these must
 * stand in the document, and each part of a sentence that names a boundary case must be named by a test.
 * It is run from the project's root.
 */
public final class SentencesTest {
    private static final Path DOCUMENT = Path.of("../shared/DOC.md");
    private static final Path TESTS = Path.of("src/test/java");
    private static final Pattern TERM = Pattern.compile("(Time|Tides|Berths|Ships|Crossings|Wind|Cancellations|Connections|Queue|Lanes"
            + "|Texts|Shelf|History|Error codes)\\. (.*)");
    private static final Pattern NAMED = Pattern.compile("Check\\.sentence\\(\\s*\"([^\"]*)\",\\s*((?:\"(?:[^\"\\\\]|\\\\.)*\"[\\s+]*)+)\\)");
    private static final Pattern LITERAL = Pattern.compile("\"((?:[^\"\\\\]|\\\\.)*)\"");

    /** Parts of a shape that names no boundary case: an argument or a result without a range, what a call is for. */
    private static final Pattern[] PLAIN = {
        Pattern.compile("`\\w+`: (the|a) [a-z ]+"),
        Pattern.compile("Returns the [a-z ]+[.;]"),
        Pattern.compile("`int \\w+\\([^)]*\\)`: (Adds|Changes|Sets|Returns) (a|an|the|what) [a-z ]+\\."),
        Pattern.compile("`[A-Z_]+ = -\\d+`: .*")};

    /** The other parts that name none, by their beginnings. */
    private static final String[] WITHOUT_BOUNDARY = {"A timetable of ferries at one port", "what later calls answer is free",
        "How the state is held inside the object is free", "Use of one object from several threads", "Nothing is promised beyond"};

    private record Part(String section, String words) {
    }

    private SentencesTest() {
    }

    public static void main(String[] args) throws IOException {
        if (!Files.exists(DOCUMENT)) {
            System.out.println("no document here: the sentences are not looked at");
            return;
        }
        List<Part> blocks = blocks(Files.readAllLines(DOCUMENT));
        List<Part> named = named();
        Check.part("Words that the tests name");
        Check.holds("the tests name many words", named.size() > 150);
        for (Part name : named) {
            Check.holds(name + " stands in the document", blocks.stream().anyMatch(block -> holds(block, name)));
        }
        Check.part("Sentences of the document");
        for (Part part : parts(blocks)) {
            Check.holds("a test names " + part, isPlain(part.words()) || named.stream().anyMatch(name -> holds(part, name) || holds(name, part)));
        }
        Check.finish();
    }

    private static boolean holds(Part whole, Part part) {
        return whole.section().equals(part.section()) && whole.words().contains(part.words());
    }

    private static boolean isPlain(String words) {
        for (Pattern plain : PLAIN) {
            if (plain.matcher(words).matches()) {
                return true;
            }
        }
        for (String beginning : WITHOUT_BOUNDARY) {
            if (words.startsWith(beginning)) {
                return true;
            }
        }
        return false;
    }

    /** The paragraphs and list items, each in one line, without the code. */
    private static List<Part> blocks(List<String> lines) {
        List<Part> blocks = new ArrayList<>();
        String section = "";
        StringBuilder block = new StringBuilder();
        boolean isCode = false;
        for (String line : lines) {
            boolean isHeading = line.startsWith("#");
            if (isHeading || line.isBlank() || line.startsWith("- ") || line.startsWith("```")) {
                section = close(blocks, section, block);
            }
            isCode ^= line.startsWith("```");
            if (isHeading) {
                section = line.replaceFirst("#+ ", "").replaceFirst("^(Promise \\d+):.*", "$1");
            } else if (!isCode && !line.startsWith("```") && !line.isBlank()) {
                block.append(block.length() == 0 ? "" : " ").append(line.startsWith("- ") ? line.substring(2) : line.trim());
            }
        }
        close(blocks, section, block);
        return blocks;
    }

    /** Returns the section of what follows: a paragraph of the terms may begin a new one. */
    private static String close(List<Part> blocks, String section, StringBuilder block) {
        String words = block.toString();
        block.setLength(0);
        Matcher term = TERM.matcher(words);
        if (term.matches()) {
            blocks.add(new Part(term.group(1), term.group(2)));
            return term.group(1);
        }
        if (!words.isEmpty()) {
            blocks.add(new Part(section, words));
        }
        return section;
    }

    private static List<Part> parts(List<Part> blocks) {
        List<Part> parts = new ArrayList<>();
        for (Part block : blocks) {
            for (String words : block.words().split("(?<=[.;])\\s+")) {
                parts.add(new Part(block.section(), words));
            }
        }
        return parts;
    }

    private static List<Part> named() throws IOException {
        Set<Path> files = new TreeSet<>();
        try (var found = Files.newDirectoryStream(TESTS, "*Test.java")) {
            found.forEach(files::add);
        }
        List<Part> named = new ArrayList<>();
        for (Path file : files) {
            Matcher call = NAMED.matcher(Files.readString(file));
            while (call.find()) {
                StringBuilder words = new StringBuilder();
                Matcher literal = LITERAL.matcher(call.group(2));
                while (literal.find()) {
                    words.append(literal.group(1).replace("\\\"", "\"").replace("\\\\", "\\"));
                }
                named.add(new Part(call.group(1), words.toString()));
            }
        }
        return named;
    }
}
