import java.lang.reflect.Method;
import java.nio.file.Files;
import java.nio.file.Path;
import java.util.Arrays;
import java.util.Set;
import java.util.TreeSet;
import java.util.regex.Matcher;
import java.util.regex.Pattern;

/** README.md's example shows each call of the class, with the answer that the call has there. */
public final class ReadmeTest {
    private static final Pattern SHOWN =
            Pattern.compile("println\\(picture\\.(\\w+)\\(([-0-9, ]*)\\)\\);\\s*// (-?\\d+)\\b");

    private static int wrong = 0;

    public static void main(String[] args) throws Exception {
        CellPieces picture = new CellPieces();
        Set<String> missing = namesOfCalls();
        for (String line : Files.readAllLines(Path.of("README.md"))) {
            Matcher shown = SHOWN.matcher(line);
            if (shown.find()) {
                missing.remove(shown.group(1));
                Object got = answer(picture, shown.group(1), numbers(shown.group(2)));
                due(shown.group(1) + "(" + shown.group(2) + ")", got, Integer.valueOf(shown.group(3)));
            } else if (line.contains("println")) {
                fault("a line without its answer: " + line);
            }
        }
        if (!missing.isEmpty()) {
            fault("calls that it does not show: " + missing);
        }
        System.out.println(wrong == 0 ? "the example is as due" : wrong + " things are not as due");
        if (wrong != 0) {
            System.exit(1);
        }
    }

    private static void due(String call, Object got, Object want) {
        if (!got.equals(want)) {
            fault(call + " answered " + got + ", README.md says " + want);
        }
    }

    private static void fault(String words) {
        wrong++;
        System.out.println("README.md: " + words);
    }

    private static Set<String> namesOfCalls() {
        Set<String> names = new TreeSet<>();
        for (Method method : CellPieces.class.getMethods()) {
            if (method.getDeclaringClass() == CellPieces.class) {
                names.add(method.getName());
            }
        }
        return names;
    }

    private static Object[] numbers(String text) {
        return text.isBlank() ? new Object[0]
                : Arrays.stream(text.split(",")).map(part -> Integer.valueOf(part.trim())).toArray();
    }

    private static Object answer(CellPieces picture, String name, Object[] numbers) throws Exception {
        Class<?>[] types = new Class<?>[numbers.length];
        Arrays.fill(types, int.class);
        return CellPieces.class.getMethod(name, types).invoke(picture, numbers);
    }
}
