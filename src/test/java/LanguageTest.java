import java.io.IOException;
import java.nio.file.Files;
import java.nio.file.Path;
import java.util.Collection;
import java.util.Map;
import java.util.Set;
import java.util.TreeMap;
import java.util.TreeSet;
import java.util.regex.Matcher;
import java.util.regex.Pattern;

/**
 * What of LANGUAGE.md can be seen in the source's text; a fault is printed with its rule's number.
 * It asks for a plainer form than the rules do (one statement to a line, counting loops alone), as a
 * form that it can't read is one it can't vouch for.
 */
public final class LanguageTest {
    private static final Path SOURCE = Path.of("src/main/java/SectorChain.java");
    private static final int MOST_LINES = 60;
    private static final int MOST_FIELDS = 40;
    private static final int MOST_DEEP = 6;
    private static final Set<String> BEFORE_PARENTHESIS = Set.of("if", "for", "while", "switch", "return", "else", "do");
    private static final Pattern CALL = Pattern.compile("\\b([A-Za-z_]\\w*)\\s*\\(");
    private static final Pattern METHOD = Pattern.compile(
        "(?ms)^    (?:public|private)(?: static)? (\\w+(?:\\[\\])?) (\\w+)\\(([^)]*)\\) \\{\n(.*?)^    \\}\n");
    private static final Pattern FIELD = Pattern.compile("(?m)^    (?:public|private)\\b[^(\n]*;$");
    private static final Pattern LOOP = Pattern.compile(
        "\\(int (\\w+) = \\w+; \\1 < (?:[A-Z][A-Z_]*|\\d+); \\1\\+\\+\\) \\{");

    private static int wrong = 0;

    public static void main(String[] args) throws IOException {
        String code = withoutComments(Files.readString(SOURCE));
        Map<String, String> bodies = new TreeMap<>();
        Matcher method = METHOD.matcher(code);
        while (method.find()) {
            check(bodies.put(method.group(2), method.group(4)) == null, 1, "two methods are named " + method.group(2));
            check(!method.group(1).contains("["), 4, method.group(2) + " answers an array");
            check(method.group(3).split(",").length <= 7, 10, method.group(2) + " has too many parameters");
        }
        check(code.contains("    public SectorChain() {\n    }\n"), 4, "the constructor does something");
        long heads = code.lines().filter(line -> line.matches("    \\w.*\\(.*")).count();
        check(heads == bodies.size() + 1, 1, "beside the constructor, not all methods can be read: " + bodies.keySet());
        words(code);
        arrays(code);
        fields(code);
        for (Map.Entry<String, String> each : bodies.entrySet()) {
            oneMethod(each.getKey(), each.getValue(), bodies.keySet());
        }
        depths(bodies);
        System.out.println(wrong == 0 ? "the source keeps to the rules" : wrong + " faults in the source");
        if (wrong != 0) {
            System.exit(1);
        }
    }

    private static void check(boolean holds, int rule, String fault) {
        if (!holds) {
            wrong++;
            System.out.println("rule " + rule + ": " + fault);
        }
    }

    private static String withoutComments(String text) {
        return text.replaceAll("(?s)/\\*.*?\\*/", " ").replaceAll("//[^\n]*", " ");
    }

    private static void none(String code, String pattern, int rule) {
        Matcher found = Pattern.compile(pattern).matcher(code);
        while (found.find()) {
            check(false, rule, "the source has " + found.group().trim());
        }
    }

    private static void words(String code) {
        none(code, "\\b(package|import)\\b", 3);
        none(code, "\\b(enum|interface|record|extends|implements|protected)\\b", 1);
        none(code, "\\b(float|double|var|null)\\b|\\[\\s*\\]\\s*\\[|[\"']|\\d[.fFdD]|\\.\\d", 2);
        // A name with a small letter after a great one is a class; constants are all great letters.
        none(code.replaceFirst("public final class SectorChain \\{", ""), "\\b(?!SectorChain\\()[A-Z]\\w*[a-z]\\w*", 3);
        none(code, "\\.\\s*(?!length\\b)\\w+", 3);
        none(code, "\\b(throw|throws|try|catch|finally|synchronized|assert|instanceof)\\b|->|::", 6);
        none(code, "[/%]", 7);
        none(code, "\\b(while|do)\\b", 8);
    }

    private static void arrays(String code) {
        Matcher line = Pattern.compile("(?m)^.*\\bnew\\b.*$").matcher(code);
        while (line.find()) {
            String made = line.group();
            check(made.matches("    private final (\\w+)\\[\\] \\w+ = new \\1\\[([A-Z][A-Z_]*|[1-9]\\d*)\\];"), 4,
                "an array is made otherwise than in a field: " + made.trim());
        }
        Matcher field = Pattern.compile("(?m)^    private .*\\] (\\w+) = new").matcher(code);
        while (field.find()) {
            String name = field.group(1);
            String rest = code.replace(field.group(), "");
            check(!Pattern.compile("\\b" + name + "\\b(?!\\[)").matcher(rest).find(), 4,
                "the array " + name + " is named without a place in it");
        }
    }

    private static void fields(String code) {
        int held = 0;
        Matcher field = FIELD.matcher(code);
        while (field.find()) {
            boolean constant = field.group().contains(" static ");
            held += constant ? 0 : 1;
            check(!constant || field.group().matches("    (public|private) static final (int|long) [A-Z_]+ = -?\\d+;"), 5,
                "no constant: " + field.group().trim());
        }
        check(held >= 1 && held <= MOST_FIELDS, 10, held + " fields");
        none(code, "\\bstatic\\s*\\{", 5);
    }

    private static void oneMethod(String name, String body, Collection<String> methods) {
        check(body.lines().count() <= MOST_LINES, 10, name + " is too long");
        Matcher call = CALL.matcher(body);
        while (call.find()) {
            String called = call.group(1);
            if (BEFORE_PARENTHESIS.contains(called)) {
                continue;
            }
            check(methods.contains(called), 3, name + " calls " + called);
            String handed = upToTheEnd(body, call.end());
            check(!CALL.matcher(handed).find(), 10, name + " has a call inside the arguments of " + called);
        }
        Matcher loop = Pattern.compile("\\bfor\\b\\s*").matcher(body);
        while (loop.find()) {
            oneLoop(name, body, loop.end());
        }
    }

    /** The text from a place behind an opening parenthesis or brace up to the one that ends it. */
    private static String upToTheEnd(String text, int from) {
        int open = 1;
        int at = from;
        while (at < text.length() && open > 0) {
            char c = text.charAt(at++);
            open += c == '(' || c == '{' ? 1 : c == ')' || c == '}' ? -1 : 0;
        }
        return text.substring(from, at - 1);
    }

    private static void oneLoop(String name, String body, int from) {
        Matcher head = LOOP.matcher(body).region(from, body.length());
        if (!head.lookingAt()) {
            check(false, 8, name + " has a loop without a counter against a constant");
            return;
        }
        String counter = "\\b" + head.group(1) + "\\b";
        String inside = upToTheEnd(body, head.end());
        Pattern changed = Pattern.compile(counter + "\\s*([-+*/%&|^]|<<|>>>?)?=(?!=)|" + counter + "\\s*(\\+\\+|--)|(\\+\\+|--)\\s*"
            + counter);
        check(!changed.matcher(inside).find(), 8, name + " changes the counter " + head.group(1) + " inside its loop");
    }

    private static Set<String> calledBy(String body, Collection<String> methods) {
        Set<String> called = new TreeSet<>();
        Matcher call = CALL.matcher(body);
        while (call.find()) {
            if (methods.contains(call.group(1))) {
                called.add(call.group(1));
            }
        }
        return called;
    }

    /** Takes away, round by round, the methods that call none of those left: what stays calls itself. */
    private static void depths(Map<String, String> bodies) {
        Map<String, String> left = new TreeMap<>(bodies);
        int deep = 0;
        boolean fewer = true;
        while (fewer) {
            Set<String> stay = new TreeSet<>(left.keySet());
            fewer = left.values().removeIf(body -> calledBy(body, stay).isEmpty());
            deep += fewer ? 1 : 0;
        }
        check(left.isEmpty(), 8, "recursion among " + left.keySet());
        check(deep <= MOST_DEEP, 10, "calls go " + deep + " deep");
    }
}
