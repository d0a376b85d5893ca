import java.lang.reflect.Constructor;
import java.lang.reflect.Field;
import java.lang.reflect.Method;
import java.lang.reflect.Modifier;
import java.nio.charset.StandardCharsets;
import java.nio.file.Files;
import java.nio.file.Path;
import java.util.ArrayList;
import java.util.HashSet;
import java.util.List;
import java.util.Set;
import java.util.TreeSet;
import java.util.regex.Matcher;
import java.util.regex.Pattern;

/** The face of the document, and the rules of LANGUAGE.md that the class or its text can show. */
public final class SourceTest {
    private static final Path SOURCE = Path.of("src/main/java/BuddyFiles.java");
    private static final String[] METHODS = {
        "void format()", "int create(int,int)", "int unlink(int)", "int open(int)", "int close(int)",
        "int write(int,int,int)", "int read(int,int)", "int truncate(int,int)", "int length(int)",
        "int extent(int,int)", "int rename(int,int)", "int setQuota(int,int)", "int usage(int)", "int free(int)",
        "int sync()", "boolean crashAfter(int)", "int mount()", "boolean corrupt(int,int)", "int fsck()",
        "int peek(int)"};
    private static final String[] CONSTANTS = {
        "EXISTS", "NO_SLOT", "NO_FILE", "BUSY", "NO_HANDLE", "BAD_HANDLE", "BAD_POSITION", "NO_SPACE", "OVER_QUOTA",
        "BELOW_USAGE", "DOWN", "BAD_ARGUMENT", "UNCLEAN"};
    private static final Set<String> LIBRARY = Set.of("System.arraycopy");
    private static final Due DUE = new Due();

    public static void main(String[] args) throws Exception {
        face();
        classes();
        String text = Files.readString(SOURCE, StandardCharsets.US_ASCII);
        String code = withoutComments(text);
        words(code);
        library(code);
        objects(code);
        lengths(code);
        divisors(code);
        loops(code);
        DUE.end();
    }

    private static void face() throws IllegalAccessException {
        Class<?> face = BuddyFiles.class;
        DUE.is("public and final", face.getModifiers(), Modifier.PUBLIC | Modifier.FINAL);
        Set<String> methods = new TreeSet<>();
        for (Method method : face.getDeclaredMethods()) {
            if (Modifier.isPublic(method.getModifiers())) {
                methods.add(signature(method));
                DUE.is(method + " throws", method.getExceptionTypes().length, 0);
                DUE.is(method + " is of an object", Modifier.isStatic(method.getModifiers()), false);
            } else {
                DUE.is(method + " is private", isHidden(method.getModifiers(), method.isSynthetic()), true);
            }
        }
        DUE.is("the methods " + methods, methods.equals(new TreeSet<>(List.of(METHODS))), true);
        Constructor<?>[] constructors = face.getDeclaredConstructors();
        DUE.is("constructors", constructors.length, 1);
        DUE.is("its modifiers", constructors[0].getModifiers(), Modifier.PUBLIC);
        DUE.is("its parameters", constructors[0].getParameterCount(), 0);
        List<String> constants = new ArrayList<>();
        for (Field field : face.getDeclaredFields()) {
            if (Modifier.isPublic(field.getModifiers())) {
                constants.add(field.getName());
                DUE.is(field.getName() + " is a constant", field.getModifiers(),
                    Modifier.PUBLIC | Modifier.STATIC | Modifier.FINAL);
                DUE.is(field.getName(), field.getInt(null), -constants.size());
            } else {
                DUE.is(field + " is private", isHidden(field.getModifiers(), field.isSynthetic()), true);
            }
        }
        DUE.is("the constants " + constants, constants.equals(List.of(CONSTANTS)), true);
    }

    private static boolean isHidden(int modifiers, boolean synthetic) {
        return synthetic || Modifier.isPrivate(modifiers);
    }

    private static String signature(Method method) {
        StringBuilder text = new StringBuilder();
        text.append(method.getReturnType()).append(' ').append(method.getName()).append('(');
        for (Class<?> type : method.getParameterTypes()) {
            text.append(text.charAt(text.length() - 1) == '(' ? "" : ",").append(type);
        }
        return text.append(')').toString();
    }

    /** Rules 1, 2, 5 and 11. */
    private static void classes() {
        Set<String> faceNames = new HashSet<>();
        for (String method : METHODS) {
            faceNames.add(method.substring(method.indexOf(' ') + 1, method.indexOf('(')));
        }
        Class<?>[] inner = BuddyFiles.class.getDeclaredClasses();
        DUE.is("some twelve classes at most", inner.length < 12, true);
        List<Class<?>> all = new ArrayList<>(List.of(inner));
        all.add(BuddyFiles.class);
        for (Class<?> type : all) {
            if (type != BuddyFiles.class) {
                DUE.is(type + " is static", Modifier.isStatic(type.getModifiers()), true);
                DUE.is(type + " is inside", (type.getModifiers() & (Modifier.PUBLIC | Modifier.PROTECTED)) == 0, true);
            }
            int fields = 0;
            for (Field field : type.getDeclaredFields()) {
                boolean isStatic = Modifier.isStatic(field.getModifiers());
                fields += isStatic ? 0 : 1;
                DUE.is(field + " is final", !isStatic || Modifier.isFinal(field.getModifiers()), true);
            }
            DUE.is(type + " has some twenty fields at most", fields <= 20, true);
            for (Method method : type.getDeclaredMethods()) {
                DUE.is(method + " has seven parameters at most", method.getParameterCount() <= 7, true);
                boolean isFace = type == BuddyFiles.class && Modifier.isPublic(method.getModifiers());
                DUE.is(method + " bears a name of its own", isFace || !faceNames.contains(method.getName()), true);
            }
        }
    }

    private static String withoutComments(String text) {
        return text.replaceAll("(?s)/\\*.*?\\*/", "").replaceAll("//[^\n]*", "");
    }

    /** Rules 2, 3, 4, 6, 10: what never stands in the program, texts among it. */
    private static void words(String code) {
        String[] never = {"\"", "'", "->", "::", "@"};
        for (String sign : never) {
            DUE.is("no " + sign, code.contains(sign), false);
        }
        String[] keywords = {"package", "import", "throw", "throws", "try", "catch", "finally", "synchronized", "assert",
            "volatile", "transient", "native", "strictfp", "protected", "var", "yield", "instanceof", "float", "double",
            "String", "Object", "equals", "hashCode", "toString", "Thread", "Runtime", "Random"};
        for (String keyword : keywords) {
            DUE.is("no " + keyword, Pattern.compile("\\b" + keyword + "\\b").matcher(code).find(), false);
        }
        DUE.is("no static block", Pattern.compile("static\\s*\\{").matcher(code).find(), false);
    }

    /** Rule 4: every class that a name with a capital calls is one of the program's own, or listed. */
    private static void library(String code) {
        Set<String> own = new HashSet<>();
        for (Class<?> inner : BuddyFiles.class.getDeclaredClasses()) {
            own.add(inner.getSimpleName());
        }
        Matcher call = Pattern.compile("\\b([A-Z][A-Za-z]*)\\.([A-Za-z]+)").matcher(code);
        while (call.find()) {
            DUE.is("may call " + call.group(), own.contains(call.group(1)) || LIBRARY.contains(call.group()), true);
        }
    }

    /** Rule 12 and the room: rows and objects are made with the object alone. */
    private static void objects(String code) {
        int start = code.indexOf("public BuddyFiles()");
        int end = code.indexOf("public void format()");
        DUE.is("the constructor comes before format", start >= 0 && end > start, true);
        Matcher made = Pattern.compile("\\bnew\\b").matcher(code);
        while (made.find()) {
            String line = code.substring(code.lastIndexOf('\n', made.start()) + 1, code.indexOf('\n', made.start()));
            boolean isField = line.matches(" {8}final int\\[\\] [a-z]+ = new int\\[[A-Z_]+\\];");
            boolean inConstructor = made.start() > start && made.start() < end;
            DUE.is("made with the object: " + line.strip(), isField || inConstructor, true);
        }
    }

    private static int indentOf(String line) {
        return line.length() - line.stripLeading().length();
    }

    /** The line that closes what a line opens, by their indents. */
    private static int endOf(List<String> lines, int start) {
        String close = " ".repeat(indentOf(lines.get(start))) + "}";
        int last = start;
        while (!lines.get(last).equals(close)) {
            last++;
        }
        return last;
    }

    /** Rule 11. */
    private static void lengths(String code) {
        List<String> lines = code.lines().toList();
        for (int i = 0; i < lines.size(); i++) {
            String line = lines.get(i);
            int indent = indentOf(line);
            if (line.endsWith(") {") && (indent == 4 || indent == 8 && line.matches(" {8}(static |private )*[a-z\\[\\]]+ \\w+\\(.*"))) {
                DUE.is("short: " + line.strip(), endOf(lines, i) - i < 60, true);
            }
        }
    }

    /** Rule 7: the program divides by constants alone, so that no divisor has to be looked at. */
    private static void divisors(String code) {
        Matcher division = Pattern.compile("[%/]=?\\s*(\\S+)").matcher(code);
        while (division.find()) {
            boolean constant = division.group(1).matches("([A-Z_]+|[1-9]\\d*)[;),]*");
            DUE.is("divides by a constant: " + division.group(), constant, true);
        }
    }

    /** Rule 9: each loop counts by one towards a bound, and nothing else in it moves its counter. */
    private static void loops(String code) {
        Pattern counted = Pattern.compile("for \\(int (\\w+) = [^;]+; (?:\\1 <=? [^;]+; \\1\\+\\+|\\1 >=? [^;]+; \\1--)\\) \\{");
        Pattern climbing = Pattern.compile("while \\((\\w+) < [A-Z_]+( && .*)?\\) \\{");
        List<String> lines = code.lines().toList();
        for (int i = 0; i < lines.size(); i++) {
            String line = lines.get(i).strip();
            if (!line.matches("\\}? ?(for|while|do)\\b.*")) {
                continue;
            }
            Matcher loop = line.startsWith("for") ? counted.matcher(line) : climbing.matcher(line);
            boolean ends = loop.matches();
            DUE.is("has an end: " + line, ends, true);
            if (ends) {
                String body = String.join("\n", lines.subList(i + 1, endOf(lines, i)));
                DUE.is("moves its counter: " + line, moves(body, loop.group(1)), line.startsWith("for") ? 0 : 1);
            }
        }
    }

    private static int moves(String body, String counter) {
        String name = "\\b" + counter + "\\b";
        String sign = "(\\+\\+|--|[-+*/%&|^]=|<<=|>>=|>>>=|=[^=])";
        Matcher move = Pattern.compile(name + "\\s*" + sign + "|(\\+\\+|--)" + name).matcher(body);
        int moves = 0;
        while (move.find()) {
            moves++;
        }
        return moves;
    }
}
