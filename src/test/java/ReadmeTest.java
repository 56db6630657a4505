import java.io.IOException;
import java.lang.reflect.Method;
import java.lang.reflect.Modifier;
import java.nio.file.Files;
import java.nio.file.Path;
import java.util.List;
import java.util.stream.Stream;

/**
 * README.md has the document's words for its terms and for every method, its example answers what it
 * tells, and it names the command that runs the tests. Runs in the project's directory.
 */
public final class ReadmeTest {
    private static final int PROMISES = 14;

    private ReadmeTest() {
    }

    public static void main(String[] args) throws IOException {
        String readme = Files.readString(Path.of("README.md"));
        String document = Files.readString(Path.of("..", "shared", "DOC.md"));
        wordsOfTheDocument(readme, document);
        everyMethod(readme);
        example(readme);
        tests(readme);
        Check.finish("ReadmeTest");
    }

    private static void wordsOfTheDocument(String readme, String document) {
        int promises = 0;
        for (String section : document.split("\n## ")) {
            String title = section.lines().findFirst().orElse("");
            boolean isPromise = title.startsWith("Promise ");
            if (isPromise || title.equals("What it is") || title.equals("Terms")) {
                paragraphs(readme, title, section.substring(title.length()));
            }
            promises += isPromise ? 1 : 0;
        }
        Check.due("promises of the document", promises, PROMISES);
    }

    private static void paragraphs(String readme, String title, String text) {
        for (String paragraph : text.strip().split("\n\n")) {
            Check.due("words of " + title + ": " + paragraph, oneLine(readme).contains(oneLine(paragraph)), true);
        }
    }

    /** Lines may end elsewhere than in the document. */
    private static String oneLine(String text) {
        return text.replaceAll("\\s+", " ").strip();
    }

    private static void everyMethod(String readme) {
        for (Method method : BinaryFunctions.class.getDeclaredMethods()) {
            if (Modifier.isPublic(method.getModifiers())) {
                String start = "- `" + method.getReturnType() + " " + method.getName() + "(";
                Check.due("an entry " + start, readme.contains(start), true);
            }
        }
        Check.due("an entry for the constructor", readme.contains("- `BinaryFunctions()`: "), true);
    }

    /** The calls of the example, one by one, each looked up with its answer in what is left of the page. */
    private static void example(String readme) {
        List<String> lines = readme.lines().dropWhile(line -> !line.equals("```java")).toList();
        BinaryFunctions f = new BinaryFunctions();
        lines = told(lines, "BinaryFunctions f = new BinaryFunctions();", "");
        f.load(0, Double.doubleToRawLongBits(10.0));
        lines = told(lines, "f.load(0, Double.doubleToRawLongBits(10.0));", "");
        f.load(1, Double.doubleToRawLongBits(3.0));
        lines = told(lines, "f.load(1, Double.doubleToRawLongBits(3.0));", "");
        lines = told(lines, "f.left(2, 0, 1, false);", f.left(2, 0, 1, false));
        lines = told(lines, "Double.longBitsToDouble(f.bits(2));", Double.longBitsToDouble(f.bits(2)));
        lines = told(lines, "f.quotient();", f.quotient());
        lines = told(lines, "f.flags();", f.flags());
        lines = told(lines, "f.sqrt(3, 0);", f.sqrt(3, 0));
        lines = told(lines, "f.flags();", f.flags());
        f.clear();
        lines = told(lines, "f.clear();", "no flag is set any more");
        lines = told(lines, "f.sqrt(8, 0);", f.sqrt(8, 0));
        Check.due("line behind the example", lines.isEmpty() ? "" : lines.get(0), "```");
    }

    /** The next line of the example is this call, with this answer; gives back the lines behind it. */
    private static List<String> told(List<String> lines, String call, Object answer) {
        List<String> open = lines.stream().dropWhile(line -> line.equals("```java") || line.isEmpty()).toList();
        if (open.isEmpty()) {
            Check.due("line of the example", "", call);
            return open;
        }
        String[] parts = open.get(0).split("//", 2);
        Check.due("line of the example", parts[0].strip(), call);
        Check.due("answer told for " + call, parts.length < 2 ? "" : parts[1].split(":")[0].strip(), answer.toString());
        return open.subList(1, open.size());
    }

    private static void tests(String readme) throws IOException {
        Check.due("the command that runs the tests", readme.contains("\n    .ci/run\n"), true);
        Check.due(".ci/run is there", Files.exists(Path.of(".ci", "run")), true);
        try (Stream<Path> files = Files.list(Path.of("src", "test", "java"))) {
            for (String file : files.map(path -> path.getFileName().toString()).sorted().toList()) {
                String name = file.replace(".java", "");
                Check.due("a row for " + name, readme.contains("| `" + name + "` | "), name.endsWith("Test"));
            }
        }
    }
}
