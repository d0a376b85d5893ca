import java.io.IOException;
import java.nio.charset.StandardCharsets;
import java.nio.file.Files;
import java.nio.file.Path;
import java.util.HashSet;
import java.util.List;
import java.util.Set;
import java.util.TreeSet;
import java.util.regex.Matcher;
import java.util.regex.Pattern;

/** Keeps EDGES.md true: its sentences stand in the document, its tests are run, and it names every promise. */
public final class EdgesTest {
    private static final int PROMISES = 21;
    private static final Path PAGE = Path.of("EDGES.md");
    private static final Path DOCUMENT = Path.of("../shared/DOC.md");
    private static final Path TESTS = Path.of("src/test/java");
    private static final Due DUE = new Due();

    public static void main(String[] args) throws IOException {
        List<String> lines = Files.readAllLines(PAGE, StandardCharsets.UTF_8);
        promisesAreNamed(lines);
        sentencesStandInTheDocument(lines);
        testsAreRun(lines);
        DUE.end();
    }

    private static boolean isRow(String line) {
        return line.startsWith("| ") && !line.startsWith("| sentence") && !line.startsWith("| ---");
    }

    private static String cell(String row, int column) {
        return row.split("\\|")[column].strip();
    }

    private static void promisesAreNamed(List<String> lines) {
        Set<String> heads = new HashSet<>();
        String head = "";
        for (String line : lines) {
            if (line.startsWith("## ")) {
                head = line.replaceAll(":.*", "");
            } else if (isRow(line)) {
                heads.add(head);
            }
        }
        DUE.is("rows for Terms", heads.contains("## Terms"), true);
        for (int promise = 1; promise <= PROMISES; promise++) {
            DUE.is("rows for promise " + promise, heads.contains("## Promise " + promise), true);
        }
    }

    /** The document folds its lines anywhere, so that white space counts as one blank. */
    private static void sentencesStandInTheDocument(List<String> lines) throws IOException {
        if (!Files.exists(DOCUMENT)) {
            System.out.println("there is no " + DOCUMENT + ": the sentences are not looked up");
            return;
        }
        String document = Files.readString(DOCUMENT, StandardCharsets.UTF_8).replaceAll("\\s+", " ");
        for (String line : lines) {
            if (isRow(line)) {
                DUE.is("the document says: " + cell(line, 1), document.contains(cell(line, 1)), true);
            }
        }
    }

    private static void testsAreRun(List<String> lines) throws IOException {
        Set<String> named = new TreeSet<>();
        for (String line : lines) {
            if (isRow(line)) {
                List<String> tests = List.of(cell(line, 2).split(", "));
                DUE.is("each row names a test: " + line, tests.get(0).contains("."), true);
                named.addAll(tests);
            }
        }
        for (String test : named) {
            int dot = test.indexOf('.');
            DUE.is(test + " is run", testsOf(test.substring(0, dot)).contains(test.substring(dot + 1)), true);
        }
    }

    /** The methods without arguments that the class's main calls. */
    private static Set<String> testsOf(String name) throws IOException {
        String text = Files.readString(TESTS.resolve(name + ".java"), StandardCharsets.UTF_8);
        int start = text.indexOf("void main(");
        String main = text.substring(start, text.indexOf("\n    }", start));
        Set<String> called = new HashSet<>();
        Matcher call = Pattern.compile("(\\w+)\\(\\);").matcher(main);
        while (call.find()) {
            called.add(call.group(1));
        }
        return called;
    }
}
