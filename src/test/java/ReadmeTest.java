import java.io.IOException;
import java.lang.reflect.Method;
import java.nio.file.Files;
import java.nio.file.Path;
import java.util.Set;
import java.util.TreeSet;
import java.util.regex.Matcher;
import java.util.regex.Pattern;

/** The example in README.md answers what is written beside it, and its table leaves no call out. */
public final class ReadmeTest {
    private static final Pattern ROW = Pattern.compile(
            "(?m)^x\\.(\\w+)\\(([-\\d, ]*)\\); +// (-?\\d+)");
    private static final Pattern TABLE_ROW = Pattern.compile("(?m)^\\| `(\\w+)\\(");

    public static void main(String[] args) throws IOException, ReflectiveOperationException {
        String readme = Files.readString(Path.of("README.md"));
        checkExample(readme);
        checkTable(readme);
        Due.finish("ReadmeTest");
    }

    private static void checkExample(String readme) throws ReflectiveOperationException {
        RingProver x = new RingProver();
        Matcher row = ROW.matcher(readme);
        int rows = 0;
        while (row.find()) {
            rows++;
            String call = row.group(1) + "(" + row.group(2) + ")";
            Due.due("row " + rows + ", " + call, answer(x, row.group(1), row.group(2)),
                    Integer.parseInt(row.group(3)));
        }
        Due.due("rows of the example that are understood", rows,
                readme.lines().filter(line -> line.startsWith("x.")).count());
    }

    private static int answer(RingProver x, String name, String arguments)
            throws ReflectiveOperationException {
        String[] texts = arguments.isEmpty() ? new String[0] : arguments.split(", ");
        Object[] numbers = new Object[texts.length];
        Class<?>[] types = new Class<?>[texts.length];
        for (int i = 0; i < texts.length; i++) {
            numbers[i] = Integer.valueOf(texts[i]);
            types[i] = int.class;
        }
        return (Integer) RingProver.class.getMethod(name, types).invoke(x, numbers);
    }

    private static void checkTable(String readme) {
        Set<String> told = new TreeSet<>();
        Matcher row = TABLE_ROW.matcher(readme);
        while (row.find()) {
            told.add(row.group(1));
        }
        Set<String> due = new TreeSet<>();
        for (Method method : RingProver.class.getMethods()) {
            if (method.getDeclaringClass() == RingProver.class) {
                due.add(method.getName());
            }
        }
        Due.holds("the table tells of " + due + ", not of " + told, told.equals(due));
    }
}
