import java.nio.file.Files;
import java.nio.file.Path;
import java.util.regex.Matcher;
import java.util.regex.Pattern;

/** Of LANGUAGE.md what can be seen in the text of the program. */
public final class RulesTest {
    private static final String[] NEVER = {"\\bthrow\\b", "\\bthrows\\b", "\\btry\\b", "\\bcatch\\b", "\\bfinally\\b",
        "\\bsynchronized\\b", "\\bassert\\b", "->", "::", "\\bpackage\\b", "\\bprotected\\b", "Exact\\(", "\\bvar\\b",
        "\\bstatic\\s*\\{", "\\bHashMap\\b", "\\bRandom\\b", "\\bThread\\b", "\\bObject\\b", "hashCode", "toString",
        "\\bdouble\\b", "\\bfloat\\b", "\\bnative\\b", "while\\s*\\(\\s*true", "for\\s*\\(\\s*;\\s*;"};

    public static void main(String[] args) throws Exception {
        Check check = new Check();
        String text = Files.readString(Path.of("src/main/java/StructureSearch.java"));
        check.holds("plain characters", text.chars().allMatch(c -> c < 128));
        String code = text.replaceAll("(?s)/\\*.*?\\*/", "").replaceAll("//[^\n]*", "");
        for (String word : NEVER) check.holds("no " + word, !Pattern.compile(word).matcher(code).find());
        Matcher system = Pattern.compile("\\bSystem\\.(\\w+)").matcher(code);
        while (system.find()) check.holds("System." + system.group(1), system.group(1).equals("arraycopy"));
        Matcher imports = Pattern.compile("\\bimport\\b[^;]*;").matcher(code);
        check.holds("no imports are needed", !imports.find());
        methodsAreShort(check, code);
        check.end();
    }

    private static void methodsAreShort(Check check, String code) {
        String[] lines = code.split("\n");
        int start = -1;
        int indent = 0;
        for (int i = 0; i < lines.length; i++) {
            String line = lines[i];
            int depth = line.length() - line.stripLeading().length();
            boolean opens = line.endsWith(") {") && (depth == 4 || depth == 8) && !line.matches("\\s*(if|for|switch|while).*");
            if (opens && start < 0) {
                start = i;
                indent = depth;
            } else if (start >= 0 && depth == indent && line.strip().equals("}")) {
                check.holds("a short method: " + lines[start].strip(), i - start <= 60);
                start = -1;
            }
        }
    }
}
