import java.lang.reflect.Method;
import java.nio.file.DirectoryStream;
import java.nio.file.Files;
import java.nio.file.Path;
import java.util.List;
import java.util.Set;
import java.util.TreeSet;
import java.util.regex.Matcher;
import java.util.regex.Pattern;

/** The calls that README.md shows are made in their order, and each answers what stands behind it there. */
public final class ReadmeTest {
    private static final String BEGIN = "MayorsChair x = new MayorsChair();";
    private static final Pattern CALL = Pattern.compile("x\\.(\\w+)\\((.*?)\\); +// (-?\\d+|BAD|NO|FULL|NONE)(: .+)?");
    private static final Pattern LETTERS = Pattern.compile("for \\(char letter : \"(.+)\"\\.toCharArray\\(\\)\\) \\{");
    private static final List<String> REST_OF_LETTERS = List.of("    x.write(letter);", "}");

    private static final Set<String> shown = new TreeSet<>();
    private static MayorsChair chair;

    public static void main(String[] args) throws Exception {
        List<String> lines = Files.readAllLines(Path.of("README.md"));
        boolean code = false;
        for (int i = 0; i < lines.size(); i++) {
            String line = lines.get(i);
            if (line.startsWith("```")) {
                code = line.equals("```java");
            } else if (code && LETTERS.matcher(line).matches()) {
                write(line, lines.subList(i + 1, i + 3));
                i += 2;
            } else if (code) {
                run(line);
            }
        }
        allAreShown();
        testsAreTold(String.join("\n", lines));
        Check.finish("ReadmeTest");
    }

    private static void write(String line, List<String> rest) {
        Check.holds("README.md: " + line + rest, rest.equals(REST_OF_LETTERS));
        Matcher m = LETTERS.matcher(line);
        Check.holds("README.md: " + line, m.matches());
        for (char letter : m.group(1).toCharArray()) {
            chair.write(letter);
        }
    }

    private static void run(String line) throws Exception {
        if (line.equals(BEGIN)) {
            chair = new MayorsChair();
            return;
        }
        Matcher m = CALL.matcher(line);
        if (!m.matches()) {
            Check.holds("README.md: a call with its answer, not " + line, false);
            return;
        }
        String[] told = m.group(2).isEmpty() ? new String[0] : m.group(2).split(", ");
        Check.due("README.md: " + m.group(1) + "(" + m.group(2) + ")", call(m.group(1), told), answer(m.group(3)));
        shown.add(m.group(1));
    }

    private static int call(String name, String[] told) throws Exception {
        Class<?>[] types = new Class<?>[told.length];
        Object[] numbers = new Object[told.length];
        for (int i = 0; i < told.length; i++) {
            types[i] = int.class;
            numbers[i] = told[i].matches("'.'") ? told[i].charAt(1) : Integer.parseInt(told[i]);
        }
        return (int) MayorsChair.class.getMethod(name, types).invoke(chair, numbers);
    }

    private static int answer(String told) throws Exception {
        return told.matches("[A-Z]+") ? MayorsChair.class.getField(told).getInt(null) : Integer.parseInt(told);
    }

    private static void allAreShown() {
        for (Method m : MayorsChair.class.getDeclaredMethods()) {
            if (java.lang.reflect.Modifier.isPublic(m.getModifiers())) {
                Check.holds("README.md shows a call of " + m.getName(), shown.contains(m.getName()));
            }
        }
    }

    private static void testsAreTold(String readme) throws Exception {
        Check.holds("README.md says how the tests are run", readme.contains("bash .ci/run"));
        try (DirectoryStream<Path> tests = Files.newDirectoryStream(Path.of("src/test/java"), "*Test.java")) {
            for (Path each : tests) {
                String name = each.getFileName().toString().replace(".java", "");
                Check.holds("README.md tells of " + name, readme.contains("`" + name + "`"));
            }
        }
    }
}
