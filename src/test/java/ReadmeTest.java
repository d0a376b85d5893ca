import java.io.IOException;
import java.lang.reflect.Method;
import java.lang.reflect.Modifier;
import java.nio.charset.StandardCharsets;
import java.nio.file.DirectoryStream;
import java.nio.file.Files;
import java.nio.file.Path;
import java.util.ArrayList;
import java.util.List;
import java.util.Map;
import java.util.Set;
import java.util.TreeMap;
import java.util.TreeSet;
import java.util.regex.Matcher;
import java.util.regex.Pattern;

/** Keeps README.md true: its example answers as it says, its calls and codes are the document's, its files are there. */
public final class ReadmeTest {
    private static final Path PAGE = Path.of("README.md");
    private static final Path DOCUMENT = Path.of("../shared/DOC.md");
    private static final Path TESTS = Path.of("src/test/java");
    private static final Pattern STEP = Pattern.compile("(int handle = )?files\\.(\\w+)\\((.*?)\\); +// (-?\\w+)(:.*)?");
    private static final Due DUE = new Due();

    public static void main(String[] args) throws Exception {
        String page = Files.readString(PAGE, StandardCharsets.UTF_8);
        exampleAnswers(page);
        callsAreTheFace(page);
        codesAreTheDocuments(page);
        filesAreThere(page);
        DUE.end();
    }

    private static Map<String, Method> face() {
        Map<String, Method> face = new TreeMap<>();
        for (Method method : BuddyFiles.class.getDeclaredMethods()) {
            if (Modifier.isPublic(method.getModifiers())) {
                face.put(method.getName(), method);
            }
        }
        return face;
    }

    private static void exampleAnswers(String page) throws Exception {
        int start = page.indexOf("```java\n") + 8;
        List<String> lines = page.substring(start, page.indexOf("```", start)).lines().toList();
        DUE.is("the example begins", lines.get(0).startsWith("BuddyFiles files = new BuddyFiles();"), true);
        BuddyFiles files = new BuddyFiles();
        int handle = -1;
        for (String line : lines.subList(1, lines.size())) {
            Matcher step = STEP.matcher(line);
            if (line.isEmpty()) {
                continue;
            }
            DUE.is("a call and its answer: " + line, step.matches(), true);
            int answer = answerOf(files, step.group(2), step.group(3), handle);
            DUE.is(line, answer, meant(step.group(4)));
            handle = step.group(1) == null ? handle : answer;
        }
    }

    private static int answerOf(BuddyFiles files, String name, String words, int handle) throws Exception {
        List<Object> arguments = new ArrayList<>();
        for (String word : words.split(", ")) {
            if (!word.isEmpty()) {
                arguments.add(word.equals("handle") ? handle : Integer.parseInt(word));
            }
        }
        Object answer = face().get(name).invoke(files, arguments.toArray());
        return answer instanceof Boolean ? meant(answer.toString()) : (Integer) answer;
    }

    private static int meant(String answer) throws Exception {
        if (answer.equals("true") || answer.equals("false")) {
            return answer.equals("true") ? 1 : 0;
        }
        return answer.matches("-?\\d+") ? Integer.parseInt(answer) : BuddyFiles.class.getField(answer).getInt(null);
    }

    /** The cells of each row of the table of calls. */
    private static List<String[]> calls(String page) {
        List<String[]> rows = new ArrayList<>();
        int start = page.indexOf("| call |");
        for (String line : page.substring(start, page.indexOf("\n\n", start)).lines().skip(2).toList()) {
            rows.add(line.split("\\|"));
        }
        return rows;
    }

    private static String nameOf(String[] row) {
        return row[1].substring(row[1].indexOf('`') + 1, row[1].indexOf('('));
    }

    private static void callsAreTheFace(String page) {
        Map<String, Method> face = face();
        for (String[] row : calls(page)) {
            String arguments = row[1].substring(row[1].indexOf('(') + 1, row[1].indexOf(')'));
            int many = arguments.isEmpty() ? 0 : arguments.split(", ").length;
            Method method = face.remove(nameOf(row));
            DUE.is("there is the call" + row[1], method != null, true);
            DUE.is("arguments of" + row[1], many, method == null ? -1 : method.getParameterCount());
        }
        DUE.is("calls that the page does not name: " + face.keySet(), face.size(), 0);
    }

    /** In each promise the document names the codes in the order in which they count. */
    private static void codesAreTheDocuments(String page) throws IOException {
        if (!Files.exists(DOCUMENT)) {
            System.out.println("there is no " + DOCUMENT + ": the codes are not looked up");
            return;
        }
        String document = Files.readString(DOCUMENT, StandardCharsets.UTF_8);
        for (String[] row : calls(page)) {
            Matcher promise = Pattern.compile("## Promise \\d+: " + nameOf(row) + "\n(?s:(.*?))\n## ").matcher(document);
            DUE.is("the document promises" + row[1], promise.find(), true);
            List<String> due = codesIn(promise.group(1));
            DUE.is("codes of" + row[1] + due, codesIn(row[3]).equals(due), true);
        }
    }

    private static List<String> codesIn(String text) {
        List<String> codes = new ArrayList<>();
        Matcher word = Pattern.compile("\\b[A-Z]+(_[A-Z]+)?\\b").matcher(text);
        while (word.find()) {
            if (isCode(word.group()) && !codes.contains(word.group())) {
                codes.add(word.group());
            }
        }
        return codes;
    }

    private static boolean isCode(String word) {
        try {
            return BuddyFiles.class.getField(word) != null;
        } catch (NoSuchFieldException none) {
            return false;
        }
    }

    private static void filesAreThere(String page) throws IOException {
        Set<String> named = new TreeSet<>();
        Matcher row = Pattern.compile("\\| `(\\S+)` \\|").matcher(page.substring(page.indexOf("| file |")));
        while (row.find()) {
            DUE.is("there is " + row.group(1), Files.exists(Path.of(row.group(1))), true);
            named.add(row.group(1));
        }
        try (DirectoryStream<Path> tests = Files.newDirectoryStream(TESTS)) {
            for (Path test : tests) {
                DUE.is("the page names " + test, named.contains(test.toString()), true);
            }
        }
    }
}
