import java.io.IOException;
import java.lang.reflect.Method;
import java.lang.reflect.Modifier;
import java.nio.file.Files;
import java.nio.file.Path;
import java.util.ArrayList;
import java.util.List;
import java.util.Set;
import java.util.TreeSet;
import java.util.regex.Matcher;
import java.util.regex.Pattern;

/** README.md: each call on it is made in its order, and answers the number that stands behind it. */
public final class ReadmeTest {
    private static final String NEW = "ItWasLikeThat x = new ItWasLikeThat();";
    private static final Pattern TEXT = Pattern.compile("for \\(char letter : \"([^\"]*)\"\\.toCharArray\\(\\)\\) \\{");
    private static final Pattern CALL = Pattern.compile("x\\.(\\w+)\\(([^)]*)\\);\\s*// (-?\\d+)\\b.*");
    /** What stands inside and behind each text. */
    private static final List<String> REST_OF_TEXT = List.of("x.feed(letter);", "}");

    private static ItWasLikeThat x;
    private static int calls = 0;
    private static final Set<String> SHOWN = new TreeSet<>();

    public static void main(String[] args) throws IOException, ReflectiveOperationException {
        String page = Files.readString(Path.of("README.md"));
        List<String> code = codeOf(page);
        Due.due("objects of which README.md tells", code.stream().filter(NEW::equals).count(), 1);
        for (String line : code) {
            take(line);
        }
        eachMethodIsShown();
        Due.due("README.md's object is used for at most 512 calls", calls <= 512 ? 1 : 0, 1);
        filesAreThere(page);
        Due.end();
    }

    private static List<String> codeOf(String page) {
        List<String> found = new ArrayList<>();
        boolean isCode = false;
        for (String line : page.split("\n")) {
            if (line.startsWith("```")) {
                isCode = line.equals("```java");
            } else if (isCode && !line.isBlank()) {
                found.add(line.trim());
            }
        }
        return found;
    }

    private static void take(String line) throws ReflectiveOperationException {
        Matcher text = TEXT.matcher(line);
        Matcher call = CALL.matcher(line);
        if (line.equals(NEW)) {
            x = new ItWasLikeThat();
        } else if (text.matches()) {
            for (char letter : text.group(1).toCharArray()) {
                x.feed(letter);
                calls++;
            }
        } else if (call.matches()) {
            answers(line, call.group(1), call.group(2), Long.parseLong(call.group(3)));
        } else {
            Due.due("a line of README.md that tells no answer: " + line, REST_OF_TEXT.contains(line) ? 1 : 0, 1);
        }
    }

    private static void answers(String line, String name, String numbers, long want)
            throws ReflectiveOperationException {
        String[] told = numbers.isEmpty() ? new String[0] : numbers.split(", ");
        Class<?>[] types = new Class<?>[told.length];
        Object[] given = new Object[told.length];
        for (int i = 0; i < told.length; i++) {
            types[i] = int.class;
            boolean isLetter = told[i].startsWith("'");
            given[i] = isLetter ? Integer.valueOf(told[i].charAt(1)) : Integer.valueOf(told[i]);
        }
        Method method = ItWasLikeThat.class.getMethod(name, types);
        Due.due("README.md: " + line, ((Number) method.invoke(x, given)).longValue(), want);
        SHOWN.add(name);
        calls++;
    }

    private static void eachMethodIsShown() {
        for (Method method : ItWasLikeThat.class.getDeclaredMethods()) {
            if (Modifier.isPublic(method.getModifiers())) {
                Due.due("shown in README.md: " + method.getName(), SHOWN.contains(method.getName()) ? 1 : 0, 1);
            }
        }
    }

    private static void filesAreThere(String page) {
        Due.due(".ci/run is told", page.contains("\n    .ci/run\n") ? 1 : 0, 1);
        Due.due(".ci/run can be run", Files.isExecutable(Path.of(".ci/run")) ? 1 : 0, 1);
        Matcher test = Pattern.compile("\\b(\\w+Test)\\b").matcher(page);
        while (test.find()) {
            Path file = Path.of("src/test/java", test.group(1) + ".java");
            Due.due("told in README.md, and there: " + file, Files.exists(file) ? 1 : 0, 1);
        }
    }
}
