import java.io.IOException;
import java.io.UncheckedIOException;
import java.nio.file.Files;
import java.nio.file.Path;
import java.util.ArrayList;
import java.util.List;
import java.util.Map;
import java.util.Set;
import java.util.TreeMap;
import java.util.regex.Matcher;
import java.util.regex.Pattern;

/** The program's text without its comments, and what can be cut out of it. */
final class Source {
    private static final Path PROGRAM = Path.of("src/main/java/RingProver.java");
    private static final Pattern METHOD = Pattern.compile(
            "(?ms)^    (?:public|private) [^;={(]*?(\\w+)\\([^)]*\\) \\{\n(.*?)^    \\}$");
    private static final Pattern CALL = Pattern.compile("\\b(\\w+)\\s*\\(");
    private static final Set<String> NOT_CALLED = Set.of("if", "for", "while", "switch", "return");

    private Source() {
    }

    static String text() {
        try {
            return Files.readString(PROGRAM)
                    .replaceAll("(?s)/\\*.*?\\*/", " ")
                    .replaceAll("//[^\n]*", " ");
        } catch (IOException thrown) {
            throw new UncheckedIOException(thrown);
        }
    }

    /** The body of each method and of the constructor, by name. */
    static Map<String, String> bodies() {
        Map<String, String> bodies = new TreeMap<>();
        Matcher method = METHOD.matcher(text());
        while (method.find()) {
            bodies.put(method.group(1), method.group(2));
        }
        return bodies;
    }

    static List<String> calledIn(String code) {
        List<String> called = new ArrayList<>();
        Matcher call = CALL.matcher(code);
        while (call.find()) {
            if (!NOT_CALLED.contains(call.group(1))) {
                called.add(call.group(1));
            }
        }
        return called;
    }

    /** What stands between the parentheses of each call. */
    static List<String> argumentsIn(String code) {
        List<String> arguments = new ArrayList<>();
        Matcher call = CALL.matcher(code);
        while (call.find()) {
            if (!NOT_CALLED.contains(call.group(1))) {
                arguments.add(code.substring(call.end(), closing(code, call.end())));
            }
        }
        return arguments;
    }

    private static int closing(String code, int start) {
        int open = 1;
        int i = start;
        while (open > 0) {
            char c = code.charAt(i);
            open += c == '(' ? 1 : c == ')' ? -1 : 0;
            i++;
        }
        return i - 1;
    }

    static int count(String text, String pattern) {
        Matcher matcher = Pattern.compile(pattern).matcher(text);
        int places = 0;
        while (matcher.find()) {
            places++;
        }
        return places;
    }
}
