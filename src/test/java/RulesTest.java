import java.lang.reflect.Field;
import java.lang.reflect.Method;
import java.lang.reflect.Modifier;
import java.nio.file.Files;
import java.nio.file.Path;
import java.util.ArrayList;
import java.util.List;
import java.util.Set;
import java.util.TreeSet;
import java.util.regex.Matcher;
import java.util.regex.Pattern;

/** What ../shared/LANGUAGE.md asks, as far as the compiled class and the source's text can tell. */
public final class RulesTest {
    private static final Path SOURCE = Path.of("src/main/java/MayorsChair.java");
    private static final List<String> METHODS = List.of("write(int)", "wipe()", "fault()", "lay()", "street(int,int)",
        "work(int)", "pass(int)", "mud(int,int)", "give(int,int,int)", "change(int,int)", "undo()",
        "behind(int,int,int)", "first(int)", "even(int)", "order(int,int)", "paint(int)", "help(int,int,int)",
        "seen(int,int)", "forget()", "kinds(int)", "uses(int)", "likely(int,int,int,int)", "decade(int,int,int)",
        "keep()", "back()", "count(int)");
    private static final String FORBIDDEN = "\\b(throw|throws|try|catch|synchronized|assert|import|package|instanceof"
        + "|System|Object|equals|hashCode|toString|volatile|native|Exception|Thread|Random)\\b|->|::";

    public static void main(String[] args) throws Exception {
        face();
        insideClasses();
        words();
        lengths();
        Check.finish("RulesTest");
    }

    private static void face() {
        Class<?> chair = MayorsChair.class;
        Check.holds("rule 1: public and final", Modifier.isPublic(chair.getModifiers()) && Modifier.isFinal(chair.getModifiers()));
        Check.due("rule 1: constructors", chair.getDeclaredConstructors().length, 1);
        Set<String> found = new TreeSet<>();
        for (Method m : chair.getDeclaredMethods()) {
            if (!Modifier.isPrivate(m.getModifiers())) {
                Check.holds("rule 1: an answer of int by " + m, m.getReturnType() == int.class && Modifier.isPublic(m.getModifiers()));
                found.add(m.getName() + List.of(m.getParameterTypes()).toString().replaceAll("[\\[\\] ]", "")
                    .replaceAll("^(.*)$", "($1)"));
            }
        }
        Check.holds("rule 1: the document's methods and no others: " + found, found.equals(new TreeSet<>(METHODS)));
        Set<String> constants = new TreeSet<>();
        for (Field f : chair.getDeclaredFields()) {
            if (!Modifier.isPrivate(f.getModifiers())) {
                constants.add(f.getName());
            }
            boolean constant = Modifier.isStatic(f.getModifiers()) && f.getType() == int.class;
            Check.holds("rule 5: final, a constant or the object's own: " + f.getName(), Modifier.isFinal(f.getModifiers())
                && (constant || !Modifier.isStatic(f.getModifiers())));
        }
        Check.holds("rule 1: constants " + constants, constants.equals(new TreeSet<>(List.of("BAD", "NO", "FULL", "NONE"))));
    }

    private static void insideClasses() {
        Set<String> publicNames = new TreeSet<>();
        METHODS.forEach(m -> publicNames.add(m.substring(0, m.indexOf('('))));
        Class<?>[] inside = MayorsChair.class.getDeclaredClasses();
        Check.holds("rule 11: some twelve classes", inside.length <= 12);
        for (Class<?> c : inside) {
            int m = c.getModifiers();
            Check.holds("rule 2: static, private or package-visible: " + c.getName(),
                Modifier.isStatic(m) && !Modifier.isPublic(m) && !Modifier.isProtected(m));
            Check.holds("rule 11: some twenty fields: " + c.getName(), c.getDeclaredFields().length <= 20);
            for (Method each : c.getDeclaredMethods()) {
                Check.holds("rule 1: no name of a public method: " + each, !publicNames.contains(each.getName()));
                Check.holds("rule 11: seven parameters at most: " + each, each.getParameterCount() <= 7);
            }
        }
    }

    private static String code() throws Exception {
        String text = Files.readString(SOURCE);
        return text.replaceAll("(?s)/\\*.*?\\*/", "").replaceAll("//[^\n]*", "");
    }

    private static void words() throws Exception {
        Matcher m = Pattern.compile(FORBIDDEN).matcher(code());
        while (m.find()) {
            Check.holds("rules 4, 6, 13: not '" + m.group() + "'", false);
        }
        String text = Files.readString(SOURCE);
        Check.holds("plain letters alone", text.chars().allMatch(c -> c == '\n' || c >= 32 && c < 127));
        Set<String> library = new TreeSet<>();
        m = Pattern.compile("\\b([A-Z][a-z]\\w*)\\.(\\w+)\\(").matcher(code());
        while (m.find()) {
            library.add(m.group(1) + "." + m.group(2));
        }
        library.removeAll(List.of("Math.max", "Math.min", "Integer.bitCount"));
        Check.holds("rule 4: of the library max, min and bitCount alone, not " + library, library.isEmpty());
    }

    private static void lengths() throws Exception {
        List<Integer> lengths = new ArrayList<>();
        int begun = -1;
        int line = 0;
        for (String each : Files.readAllLines(SOURCE)) {
            line++;
            if (each.matches("( {4}| {8})[a-zA-Z].*\\) \\{") && !each.contains(" new ") && !each.matches(" +(for|if|while|switch) .*")) {
                begun = line;
            } else if (begun >= 0 && each.matches("( {4}| {8})}")) {
                lengths.add(line - begun + 1);
                begun = -1;
            }
        }
        Check.holds("methods were found: " + lengths.size(), lengths.size() > 60);
        for (int length : lengths) {
            Check.holds("rule 11: some sixty lines, not " + length, length <= 60);
        }
    }
}
