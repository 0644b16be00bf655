import java.lang.reflect.InvocationTargetException;
import java.lang.reflect.Method;
import java.lang.reflect.Modifier;
import java.nio.charset.StandardCharsets;
import java.nio.file.Files;
import java.nio.file.Path;
import java.util.Arrays;
import java.util.Set;
import java.util.TreeSet;
import java.util.regex.Matcher;
import java.util.regex.Pattern;

/** README.md's examples, carried out line by line as they stand there, and its list of calls. */
final class ReadmeTest {
    private static final Path README = Path.of("README.md");
    private static final Pattern EXAMPLE = Pattern.compile("(?s)```java\\R(.*?)```");
    private static final Pattern CALL = Pattern.compile(
        "converter\\.(\\w+)\\(([-\\d, ]*)\\); +// (throws \\w+|true|false|-?\\d+(?:\\.\\d+)?)\\b.*");
    private static final Pattern TYPED = Pattern.compile("for \\(char sign : \"(.*)\"\\.toCharArray\\(\\)\\) \\{");
    private static final Set<String> REST_OF_TYPED = Set.of("converter.append(sign);", "}");
    private static final String NEW = "WeighingConverter converter = new WeighingConverter();";
    private static final Pattern LISTED = Pattern.compile("`(\\w+)`(\\*?)");

    static void run() {
        Check.test("the readme: its examples answer what stands behind them", () -> {
            Matcher example = EXAMPLE.matcher(readme());
            int examples = 0;
            while (example.find()) {
                carryOut(example.group(1));
                examples++;
            }
            Check.isTrue("there are examples", examples > 0);
        });
        Check.test("the readme: its list has every call, with a * where the document says Undoable", () -> {
            String text = readme();
            Matcher listed = LISTED.matcher(text.substring(text.indexOf("All calls:"), text.indexOf("A call with a *")));
            Set<String> found = new TreeSet<>();
            while (listed.find()) {
                found.add(listed.group(1) + listed.group(2));
            }
            Check.isTrue("listed are " + found, found.equals(callsOfTheFace()));
        });
    }

    private static String readme() throws Exception {
        return Files.readString(README, StandardCharsets.UTF_8);
    }

    private static Set<String> callsOfTheFace() {
        Set<String> calls = new TreeSet<>();
        for (Method method : WeighingConverter.class.getDeclaredMethods()) {
            if (Modifier.isPublic(method.getModifiers())) {
                calls.add(method.getName() + (Doc.isUndoable(method.getName()) ? "*" : ""));
            }
        }
        return calls;
    }

    private static void carryOut(String example) throws Exception {
        WeighingConverter converter = null;
        for (String line : example.lines().map(String::strip).toList()) {
            Matcher call = CALL.matcher(line);
            Matcher typed = TYPED.matcher(line);
            if (line.equals(NEW)) {
                converter = new WeighingConverter();
            } else if (call.matches()) {
                String answer = answer(converter, call.group(1), call.group(2));
                Check.isTrue(line + " (it is " + answer + ")", answer.equals(call.group(3)));
            } else if (typed.matches()) {
                Check.type(converter, typed.group(1));
            } else {
                Check.isTrue("this test understands: " + line, REST_OF_TYPED.contains(line));
            }
        }
    }

    private static String answer(WeighingConverter converter, String name, String numbers) throws Exception {
        Object[] arguments = numbers.isEmpty() ? new Object[0]
            : Arrays.stream(numbers.split(", ")).map(Integer::valueOf).toArray();
        Class<?>[] types = new Class<?>[arguments.length];
        Arrays.fill(types, int.class);
        try {
            return String.valueOf(WeighingConverter.class.getMethod(name, types).invoke(converter, arguments));
        } catch (InvocationTargetException e) {
            return "throws " + e.getCause().getClass().getSimpleName();
        }
    }
}
