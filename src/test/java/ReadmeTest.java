import java.lang.reflect.Method;
import java.lang.reflect.Modifier;
import java.nio.file.Files;
import java.nio.file.Path;
import java.util.Arrays;
import java.util.Set;
import java.util.TreeSet;
import java.util.regex.Matcher;
import java.util.regex.Pattern;

/** README.md: each call in its example answers what stands behind it, and no method of the face is left out. */
public final class ReadmeTest {
    private static final Pattern CALL = Pattern.compile("x\\.(\\w+)\\(([-, 0-9]*)\\);\\s+// (true|false|-?\\d+)\\b.*");

    public static void main(String[] args) throws Exception {
        Check check = new Check();
        StructureSearch x = new StructureSearch();
        Set<String> told = new TreeSet<>();
        for (String line : Files.readAllLines(Path.of("README.md"))) {
            if (!line.startsWith("x.")) continue;
            Matcher call = CALL.matcher(line);
            boolean isCall = call.matches();
            check.holds("a call with its answer: " + line, isCall);
            if (!isCall) continue;
            told.add(call.group(1));
            String got = String.valueOf(answer(x, call.group(1), call.group(2)));
            check.holds(line + " answered " + got, got.equals(call.group(3)));
        }
        for (Method m : StructureSearch.class.getDeclaredMethods()) {
            if (Modifier.isPublic(m.getModifiers())) check.holds("told: " + m.getName(), told.contains(m.getName()));
        }
        check.end();
    }

    private static Object answer(StructureSearch x, String name, String numbers) throws Exception {
        Object[] given = numbers.isEmpty() ? new Object[0]
            : Arrays.stream(numbers.split(", ")).map(Integer::valueOf).toArray();
        Class<?>[] types = new Class<?>[given.length];
        Arrays.fill(types, int.class);
        return StructureSearch.class.getMethod(name, types).invoke(x, given);
    }
}
