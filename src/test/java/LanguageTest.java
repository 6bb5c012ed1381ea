import java.io.IOException;
import java.nio.file.Files;
import java.nio.file.Path;
import java.util.List;
import java.util.regex.Pattern;

/** What a look at the source tells of the rules in ../shared/LANGUAGE.md: words that they rule out, and lengths. */
public final class LanguageTest {
    private static final Path SOURCE = Path.of("src", "main", "java", "CutsOrFast.java");
    private static final String[] RULED_OUT = {"\\bpackage\\b", "\\bimport\\b", "\\bthrow\\b", "\\btry\\b", "\\bcatch\\b",
        "\\bfinally\\b", "\\bsynchronized\\b", "\\bassert\\b", "->", "::", "@", "\"", "\\bprotected\\b", "System\\.",
        "\\bObject\\b", "\\bhashCode\\b", "\\bequals\\b", "\\btoString\\b", "Exact\\b", "[^\\x00-\\x7f]"};
    // A private method of a face's name is ruled out; the classes inside have none such, either.
    private static final Pattern INNER_NAMESAKE = Pattern.compile("^ {8}.*\\b(letters|blank|fault|net|lane|status|begin|take|"
        + "back|whose|by|answer|lost|ways|parting|mend|bought|likely|player|as|move|game|image|restore|count|digest)\\([a-z ,]*\\) \\{$"
        + "|^ {4}private .*\\b(net|lane|take|move|game|count|player|mend|back)\\(.*\\) \\{$");

    public static void main(String[] args) throws IOException {
        Check check = new Check("LanguageTest");
        List<String> lines = Files.readAllLines(SOURCE);
        check.due("there is a source", !lines.isEmpty());
        int methodFrom = 0;
        int classes = 0;
        for (int i = 0; i < lines.size(); i++) {
            String line = lines.get(i);
            String code = line.replaceAll("//.*|^\\s*/?\\*.*", "");
            for (String word : RULED_OUT) {
                check.due("line " + (i + 1) + " has " + word, !Pattern.compile(word).matcher(code).find());
            }
            check.due("line " + (i + 1) + " names a method of the face", !INNER_NAMESAKE.matcher(code).find());
            check.due("line " + (i + 1) + " is at most 120 long", line.length() <= 120);
            classes += code.contains(" class ") ? 1 : 0;
            if (code.matches(" {4}( {4})?[a-z].*\\) \\{")) {
                methodFrom = i;
            }
            if (code.matches(" {4}( {4})?\\}")) {
                check.due("the method at line " + (methodFrom + 1) + " is short", i - methodFrom < 60
                    || lines.get(i).equals("    }") && lines.get(methodFrom).startsWith("        "));
            }
        }
        check.due("classes", classes <= 12);
        check.end();
    }
}
