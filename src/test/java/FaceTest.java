import java.lang.reflect.Constructor;
import java.lang.reflect.Field;
import java.lang.reflect.Method;
import java.lang.reflect.Modifier;
import java.nio.charset.StandardCharsets;
import java.nio.file.Files;
import java.nio.file.Path;
import java.util.ArrayList;
import java.util.List;
import java.util.Set;
import java.util.TreeSet;
import java.util.regex.Matcher;
import java.util.regex.Pattern;

/** The document's face, and what of LANGUAGE.md can be looked at simply. */
final class FaceTest {
    private static final Path SOURCE = Path.of("src/main/java/WeighingConverter.java");

    private static final String[] DUE = {
        "int append(int) IllegalArgumentException IllegalStateException",
        "int clearText()",
        "int code(int) IndexOutOfBoundsException",
        "int convert()",
        "long digest()",
        "int error(int) IndexOutOfBoundsException",
        "int firstError()",
        "int hold(int) IllegalArgumentException",
        "int ideal(int) IllegalArgumentException",
        "int insertWeight(int int) IndexOutOfBoundsException IllegalArgumentException IllegalStateException",
        "int kept(int) IndexOutOfBoundsException",
        "int leastMissing()",
        "int load() IllegalArgumentException",
        "int logged()",
        "double meanError()",
        "int mended(int) IndexOutOfBoundsException",
        "int nextCode()",
        "int removeWeight(int) IndexOutOfBoundsException IllegalStateException",
        "int sample(int int) IllegalArgumentException",
        "int savedStates()",
        "int setCapacitor(int int) IllegalArgumentException",
        "boolean setGlitch(int) IndexOutOfBoundsException",
        "int setOffset(int) IllegalArgumentException",
        "int setWeight(int int) IndexOutOfBoundsException IllegalArgumentException",
        "int sortWeights()",
        "int sums()",
        "int ticksToChange()",
        "int ticksToSettle(int) IllegalArgumentException",
        "int total()",
        "int undo() IllegalStateException",
        "int voltage()",
        "int weight(int) IndexOutOfBoundsException",
        "int weights()",
    };

    static void run() {
        Check.test("the face: every method with its types and exceptions, and no other", () -> {
            Set<String> found = new TreeSet<>();
            Set<String> publicNames = new TreeSet<>();
            Set<String> privateNames = new TreeSet<>();
            for (Method method : WeighingConverter.class.getDeclaredMethods()) {
                if (Modifier.isPublic(method.getModifiers())) {
                    found.add(described(method));
                    publicNames.add(method.getName());
                } else {
                    Check.isTrue(method + " is private", Modifier.isPrivate(method.getModifiers()));
                    privateNames.add(method.getName());
                }
            }
            Check.isTrue("found " + found, found.equals(new TreeSet<>(List.of(DUE))));
            privateNames.retainAll(publicNames);
            Check.isTrue("names are used twice: " + privateNames, privateNames.isEmpty());
        });
        Check.test("the face: the class, its constant and its constructor", () -> {
            Check.isTrue("public and final", WeighingConverter.class.getModifiers() == Modifier.PUBLIC + Modifier.FINAL);
            Check.equal(-1, WeighingConverter.NONE);
            for (Field field : WeighingConverter.class.getDeclaredFields()) {
                boolean isNone = field.getName().equals("NONE");
                Check.isTrue(field + " is hidden", isNone || Modifier.isPrivate(field.getModifiers()));
            }
            Constructor<?>[] constructors = WeighingConverter.class.getDeclaredConstructors();
            Check.equal(1, constructors.length);
            Check.isTrue("public", Modifier.isPublic(constructors[0].getModifiers()));
            Check.equal(0, constructors[0].getParameterCount());
            for (Class<?> inside : WeighingConverter.class.getDeclaredClasses()) {
                Check.isTrue(inside + " is private and static",
                    Modifier.isPrivate(inside.getModifiers()) && Modifier.isStatic(inside.getModifiers()));
            }
        });
        Check.test("the language: nothing stands in the source that LANGUAGE.md rules out", () -> {
            String source = Files.readString(SOURCE, StandardCharsets.ISO_8859_1);
            Check.isTrue("only signs 1 to 127", source.chars().allMatch(sign -> sign >= 1 && sign <= 127));
            String code = source.replaceAll("(?s)/\\*.*?\\*/", "").replaceAll("//.*", "").replaceAll("\"[^\"]*\"", "\"\"");
            Matcher ruledOut = Pattern.compile("\\b(package|import|try|catch|finally|synchronized|assert|var|float"
                + "|protected|Exact|Object|Thread|equals|hashCode|toString)\\b|->|::|@|\\?>|<[A-Z]").matcher(code);
            Check.isTrue("found in the source", !ruledOut.find());
            List<String> library = new ArrayList<>();
            Matcher call = Pattern.compile("\\b(System|Math|Integer|Long|Arrays)\\.(\\w+)").matcher(code);
            while (call.find()) {
                library.add(call.group());
            }
            library.removeAll(List.of("System.arraycopy", "Math.min", "Math.abs", "Long.bitCount"));
            Check.isTrue("library calls " + library, library.isEmpty());
        });
    }

    private static String described(Method method) {
        StringBuilder text = new StringBuilder(method.getReturnType().getSimpleName() + " " + method.getName() + "(");
        for (Class<?> type : method.getParameterTypes()) {
            text.append(text.charAt(text.length() - 1) == '(' ? "" : " ").append(type.getSimpleName());
        }
        text.append(")");
        for (Class<?> type : method.getExceptionTypes()) {
            text.append(" ").append(type.getSimpleName());
        }
        return text.toString();
    }
}
