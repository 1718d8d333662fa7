import java.io.IOException;
import java.lang.reflect.Method;
import java.nio.file.Files;
import java.nio.file.Path;
import java.util.ArrayList;
import java.util.List;
import java.util.TreeSet;
import java.util.regex.Matcher;
import java.util.regex.Pattern;

/** Reads README.md and makes each call that stands in it: the answer behind it must be the one that is given. */
public final class ReadmeTest {
    private static final Path README = Path.of("README.md");
    private static final String MADE = "ThreeLegs x = new ThreeLegs();";
    private static final Pattern CALL = Pattern.compile("x\\.(\\w+)\\(([-\\d, ]*)\\); +// (-?\\d+): (.*)");
    private static final Pattern REFUSAL = Pattern.compile("\\| (-\\d) \\| `(\\w+)` \\| .*");
    private static final String[] REFUSALS_IN_ORDER = {"UNKNOWN", "OUTSIDE", "NO", "STATE", "FULL"};

    private static int wrong = 0;
    private static int calls = 0;
    private static final TreeSet<String> called = new TreeSet<>();

    private static void due(String what, boolean stands) {
        if (!stands) {
            wrong++;
            System.out.println("not so: " + what);
        }
    }

    public static void main(String[] args) throws IOException, ReflectiveOperationException {
        List<String> lines = Files.readAllLines(README);
        theCalls(lines);
        theRefusals(lines);
        theTests(String.join("\n", lines));
        System.out.println(wrong == 0 ? calls + " calls of README.md are as due" : wrong + " things are not as due");
        if (wrong != 0) {
            System.exit(1);
        }
    }

    private static void theCalls(List<String> lines) throws ReflectiveOperationException {
        ThreeLegs x = null;
        boolean inside = false;
        for (String line : lines) {
            if (line.startsWith("```")) {
                inside = line.equals("```java");
            } else if (inside && line.equals(MADE)) {
                x = new ThreeLegs();
            } else if (inside && !line.isEmpty() && !line.startsWith("//")) {
                oneCall(x, line);
            }
        }
        for (Method method : ThreeLegs.class.getMethods()) {
            if (method.getDeclaringClass() == ThreeLegs.class) {
                due(method.getName() + "() stands in README.md", called.contains(method.getName()));
            }
        }
    }

    private static void oneCall(ThreeLegs x, String line) throws ReflectiveOperationException {
        Matcher matcher = CALL.matcher(line);
        due("a call with its answer: " + line, matcher.matches() && x != null);
        if (matcher.matches() && x != null) {
            String[] texts = matcher.group(2).isEmpty() ? new String[0] : matcher.group(2).split(", ");
            Object[] numbers = new Object[texts.length];
            Class<?>[] types = new Class<?>[texts.length];
            for (int i = 0; i < texts.length; i++) {
                numbers[i] = Integer.valueOf(texts[i]);
                types[i] = int.class;
            }
            int got = (int) ThreeLegs.class.getMethod(matcher.group(1), types).invoke(x, numbers);
            int told = Integer.parseInt(matcher.group(3));
            due(line + " answered " + got, got == told);
            String word = matcher.group(4).split("\\W")[0];
            due(line + " names what " + told + " is", told >= 0 || valueOf(word) == told);
            called.add(matcher.group(1));
            calls++;
        }
    }

    private static void theRefusals(List<String> lines) throws ReflectiveOperationException {
        List<String> names = new ArrayList<>();
        for (String line : lines) {
            Matcher matcher = REFUSAL.matcher(line);
            if (matcher.matches()) {
                names.add(matcher.group(2));
                due(line, valueOf(matcher.group(2)) == Integer.parseInt(matcher.group(1)));
            }
        }
        due("the refusals in the order that the document tells", names.equals(List.of(REFUSALS_IN_ORDER)));
    }

    private static int valueOf(String constant) throws ReflectiveOperationException {
        return constant.matches("[A-Z]+") ? ThreeLegs.class.getField(constant).getInt(null) : 0;
    }

    private static void theTests(String text) throws IOException {
        try (var files = Files.list(Path.of("src/test/java"))) {
            files.forEach(file -> {
                String name = file.getFileName().toString().replace(".java", "");
                due("README.md tells what " + name + " is", text.contains("- `" + name + "`:"));
            });
        }
    }
}
