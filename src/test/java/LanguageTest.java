import java.nio.file.Files;
import java.nio.file.Path;
import java.util.ArrayList;
import java.util.List;
import java.util.regex.Matcher;
import java.util.regex.Pattern;

/** What a look at the text of the class can tell of LANGUAGE.md. */
final class LanguageTest {
    private static final String[] FORBIDDEN = {"\\bimport\\b", "\\bpackage\\b", "\\btry\\b", "\\bcatch\\b",
        "\\bfinally\\b", "\\bthrow\\b", "\\bsynchronized\\b", "\\bassert\\b", "\\bprotected\\b", "\\binstanceof\\b",
        "->", "::", "\\bdouble\\b", "\\bfloat\\b", "\\bObject\\b", "\\bSystem\\.(?!arraycopy)", "\\bThread\\b",
        "\\bequals\\b", "\\bhashCode\\b", "\\btoString\\b", "Exact\\b", "@Override"};

    public static void main(String[] args) throws Exception {
        String text = Files.readString(Path.of("src/main/java/WarmBeds.java"));
        for (int k = 0; k < text.length(); k++) {
            Due.is("sign " + k + " is plain", text.charAt(k) < 128 ? 1 : 0, 1);
        }
        String code = text.replaceAll("(?s)/\\*.*?\\*/", "").replaceAll("//[^\n]*", "");
        for (String word : FORBIDDEN) {
            Due.is(word, count(code, word), 0);
        }
        Due.is("static fields that are not final", count(code, "static (?!final)[\\w\\[\\]]+ \\w+( =|;)"), 0);
        Due.is("classes are few", count(code, "\\bclass\\b") <= 12 ? 1 : 0, 1);
        rowsAreMadeOnce(code);
        methodsAreShort(code);
        Due.end();
    }

    private static int count(String text, String pattern) {
        Matcher matcher = Pattern.compile(pattern).matcher(text);
        int found = 0;
        while (matcher.find()) {
            found++;
        }
        return found;
    }

    /** What calls make stays in the room of the run: only fields and the constructor may make anything. */
    private static void rowsAreMadeOnce(String code) {
        String constructor = code.substring(code.indexOf("public WarmBeds()"), code.indexOf("public int beds"));
        for (String line : code.replace(constructor, "").split("\n")) {
            if (line.contains("new ")) {
                Due.is("a field: " + line.trim(), line.contains("private final ") ? 1 : 0, 1);
            }
        }
    }

    private static void methodsAreShort(String code) {
        List<Integer> starts = new ArrayList<>();
        String[] lines = code.split("\n");
        for (int k = 0; k < lines.length; k++) {
            if (lines[k].matches(" +(public|private) .*\\) \\{")) {
                starts.add(k);
            }
        }
        starts.add(lines.length);
        for (int k = 0; k + 1 < starts.size(); k++) {
            int length = starts.get(k + 1) - starts.get(k);
            Due.is("lines of " + lines[starts.get(k)].trim() + " are few", length <= 60 ? 1 : 0, 1);
        }
    }
}
