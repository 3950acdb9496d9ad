import java.lang.reflect.Method;
import java.util.ArrayDeque;
import java.util.Deque;
import java.util.List;
import java.util.Map;
import java.util.Set;
import java.util.TreeSet;

/** Those rules of LANGUAGE.md that the program's text shows; some are held more narrowly here. */
public final class SourceTest {
    private static final int LONGEST = 60;
    private static final int DEEPEST = 6;
    private static final int MOST_FIELDS = 40;

    private static final String[] BARRED_WORDS = {
        "package", "import", "float", "double", "null", "throw", "throws", "try", "catch",
        "finally", "synchronized", "assert", "instanceof", "super", "var", "enum", "interface",
        "record", "Object", "String", "Math", "Integer", "Long", "System", "Arrays"};

    // In both, 1 stands for the loop's counter.
    private static final String COUNTED_LOOP =
            "\\bfor \\(int (\\w+) = 0; \\1 < [A-Z]+; \\1\\+\\+\\)";
    private static final String SETTING =
            "(\\b\\1 *([-+*/%&|^]|<<|>>>?)?=[^=]|\\b\\1(\\+\\+|--)|(\\+\\+|--)\\1\\b)";

    private static final Map<String, String> BODIES = Source.bodies();

    public static void main(String[] args) {
        Due.test("every method is cut out of the text", SourceTest::allMethodsAreFound);
        Due.test("rules 2, 3, 6: no other type, no library, no barred word",
                SourceTest::noBarredWord);
        Due.test("rule 3: only the class's own methods are called", SourceTest::onlyOwnCalls);
        Due.test("rule 4: arrays are made in fields' initialisers, with a constant length",
                SourceTest::arraysAreMadeInFields);
        Due.test("rule 5: static fields are constants", SourceTest::staticsAreConstants);
        Due.test("rule 8: no recursion; rule 10: calls go at most six deep",
                SourceTest::callsEndSixDeep);
        Due.test("rule 8: a loop counts against a bound", SourceTest::loopsCount);
        Due.test("rule 10: no call inside the arguments of another", SourceTest::noCallInArguments);
        Due.test("rule 10: methods stay short, fields are few", SourceTest::sizesAreKept);
        Due.finish("SourceTest");
    }

    // The other tests here would pass over a method that the cutting has missed.
    private static void allMethodsAreFound() {
        Set<String> declared = new TreeSet<>();
        declared.add("RingProver");
        for (Method method : RingProver.class.getDeclaredMethods()) {
            declared.add(method.getName());
        }
        Due.holds(BODIES.keySet() + " are " + declared, BODIES.keySet().equals(declared));
        Due.due("no two bear one name", BODIES.size(),
                RingProver.class.getDeclaredMethods().length + 1);
    }

    private static void noBarredWord() {
        String text = Source.text();
        for (String word : BARRED_WORDS) {
            Due.due("places with the word " + word, Source.count(text, "\\b" + word + "\\b"), 0);
        }
        Due.due("places with ->, :: or a text", Source.count(text, "->|::|\""), 0);
    }

    private static void onlyOwnCalls() {
        BODIES.forEach((name, body) -> {
            for (String called : Source.calledIn(body)) {
                Due.holds(name + " calls " + called + ", which is the class's own",
                        BODIES.containsKey(called));
            }
            Due.due("places in " + name + " with a point", Source.count(body, "\\."), 0);
        });
    }

    private static void arraysAreMadeInFields() {
        String text = Source.text();
        Due.due("things made otherwise than as a final field of constant length",
                Source.count(text, "\\bnew\\b"),
                Source.count(text, "\n    private final \\w+\\[\\] \\w+ = new \\w+\\[[A-Z]+\\];"));
        Due.due("arrays written out", Source.count(text, "[=\\]]\\s*\\{"), 0);
    }

    private static void staticsAreConstants() {
        String text = Source.text();
        Due.due("static initialisers", Source.count(text, "\\bstatic\\s*\\{"), 0);
        Due.due("static fields that are no plain constant",
                Source.count(text, "\\bstatic\\b[^({;]*[=;]"),
                Source.count(text, "\\bprivate static final (int|long) [A-Z]+ = -?\\d+L?;"));
    }

    private static void callsEndSixDeep() {
        for (String name : BODIES.keySet()) {
            Due.holds(name + " goes " + DEEPEST + " deep at most and not in a circle",
                    depth(name, new ArrayDeque<>()) <= DEEPEST);
        }
    }

    // A method that calls itself, at whatever distance, counts as endlessly deep.
    private static int depth(String name, Deque<String> callers) {
        if (callers.contains(name)) {
            return Integer.MAX_VALUE / 2;
        }
        callers.push(name);
        int deepest = 0;
        for (String called : Source.calledIn(BODIES.getOrDefault(name, ""))) {
            deepest = Math.max(deepest, depth(called, callers));
        }
        callers.pop();
        return deepest + 1;
    }

    // Narrower than the rule: the class has no need of any other kind of loop.
    private static void loopsCount() {
        BODIES.forEach((name, body) -> {
            Due.due("loops of " + name + " that are not counted from 0 to a constant",
                    Source.count(body, "\\b(for|while|do)\\b"), Source.count(body, COUNTED_LOOP));
            Due.due("loops of " + name + " that set their counter inside",
                    Source.count(body, "(?s)" + COUNTED_LOOP + ".*" + SETTING), 0);
        });
    }

    private static void noCallInArguments() {
        BODIES.forEach((name, body) -> {
            for (String arguments : Source.argumentsIn(body)) {
                List<String> called = Source.calledIn(arguments);
                Due.holds(name + " has no call in the arguments (" + arguments + ")",
                        called.isEmpty());
            }
        });
    }

    private static void sizesAreKept() {
        BODIES.forEach((name, body) ->
                Due.holds(name + " is short", Source.count(body, "\n") <= LONGEST));
        Due.holds("fields are few", RingProver.class.getDeclaredFields().length <= MOST_FIELDS);
    }
}
