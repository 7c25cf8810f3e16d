import java.lang.reflect.Constructor;
import java.lang.reflect.Field;
import java.lang.reflect.Method;
import java.lang.reflect.Modifier;
import java.nio.file.Files;
import java.nio.file.Path;
import java.util.ArrayList;
import java.util.HashMap;
import java.util.List;
import java.util.Map;
import java.util.Set;
import java.util.TreeSet;
import java.util.regex.Matcher;
import java.util.regex.Pattern;

/** What a look at the class from outside, and at its text, can tell of LANGUAGE.md. */
final class LanguageTest {
    private static final String[] FORBIDDEN = {"\\bimport\\b", "\\bpackage\\b", "\\btry\\b", "\\bcatch\\b",
        "\\bfinally\\b", "\\bthrow\\b", "\\bsynchronized\\b", "\\bassert\\b", "\\bprotected\\b", "\\binstanceof\\b",
        "->", "::", "\\bdouble\\b", "\\bfloat\\b", "\\bObject\\b", "\\bSystem\\.(?!arraycopy)", "\\bThread\\b",
        "\\bequals\\b", "\\bhashCode\\b", "\\btoString\\b", "Exact\\b", "@Override"};

    public static void main(String[] args) throws Exception {
        String text = Files.readString(Path.of("src/main/java/WarmBeds.java"));
        for (int k = 0; k < text.length(); k++) {
            Due.is("sign " + k + " is plain", text.charAt(k) < 128 ? 1 : 0, 1);
        }
        String code = text.replaceAll("(?s)/\\*.*?\\*/", "").replaceAll("//[^\n]*", "");
        for (String word : FORBIDDEN) {
            Due.is(word, count(code, word), 0);
        }
        Due.is("static fields that are not final", count(code, "static (?!final)[\\w\\[\\]]+ \\w+( =|;)"), 0);
        Due.is("classes are few", count(code, "\\bclass\\b") <= 12 ? 1 : 0, 1);
        rowsAreMadeOnce(code);
        methodsAreShort(code);
        callsGoEightDeep(code);
        fieldsAreFew(WarmBeds.class);
        parametersAreFew(WarmBeds.class);
        for (Class<?> inside : WarmBeds.class.getDeclaredClasses()) {
            fieldsAreFew(inside);
            parametersAreFew(inside);
        }
        Due.end();
    }

    private static int count(String text, String pattern) {
        Matcher matcher = Pattern.compile(pattern).matcher(text);
        int found = 0;
        while (matcher.find()) {
            found++;
        }
        return found;
    }

    /** What calls make stays in the room of the run: only fields and the constructor may make anything. */
    private static void rowsAreMadeOnce(String code) {
        String constructor = code.substring(code.indexOf("public WarmBeds()"), code.indexOf("public int beds"));
        for (String line : code.replace(constructor, "").split("\n")) {
            if (line.contains("new ")) {
                Due.is("a field: " + line.trim(), line.contains("private final ") ? 1 : 0, 1);
            }
        }
    }

    private static void methodsAreShort(String code) {
        List<Integer> starts = new ArrayList<>();
        String[] lines = code.split("\n");
        for (int k = 0; k < lines.length; k++) {
            if (lines[k].matches(" +(public|private) .*\\) \\{")) {
                starts.add(k);
            }
        }
        starts.add(lines.length);
        for (int k = 0; k + 1 < starts.size(); k++) {
            int length = starts.get(k + 1) - starts.get(k);
            Due.is("lines of " + lines[starts.get(k)].trim() + " are few", length <= 60 ? 1 : 0, 1);
        }
    }

    /**
     * Rule 11: "calls that are no recursion go at most eight deep". Methods of the same name are taken for one, so
     * that no way is missed; a method that calls itself is met once on a way.
     */
    private static void callsGoEightDeep(String code) {
        Map<String, Set<String>> calls = callsByName(code);
        Due.is("all methods of the face are found", calls.keySet().contains("told") ? 1 : 0, 1);
        for (String name : calls.keySet()) {
            int deep = depth(name, calls, new ArrayList<>());
            Due.is("calls from " + name + " go " + deep + " deep", deep <= 8 ? 1 : 0, 1);
        }
    }

    private static Map<String, Set<String>> callsByName(String code) {
        String head = "(?m)^ +(?:public|private) (?:static )?(?:\\w+ )?(\\w+)\\(.*\\) \\{$";
        Matcher heads = Pattern.compile(head).matcher(code);
        Map<String, Set<String>> calls = new HashMap<>();
        String name = "";
        int from = 0;
        while (heads.find()) {
            calls.computeIfAbsent(name, any -> new TreeSet<>()).addAll(called(code.substring(from, heads.start())));
            name = heads.group(1);
            from = heads.end();
        }
        calls.computeIfAbsent(name, any -> new TreeSet<>()).addAll(called(code.substring(from)));
        calls.remove("");
        for (Set<String> some : calls.values()) {
            some.retainAll(calls.keySet());
        }
        return calls;
    }

    private static Set<String> called(String body) {
        Set<String> names = new TreeSet<>();
        Matcher call = Pattern.compile("(\\w+)\\(").matcher(body);
        while (call.find()) {
            names.add(call.group(1));
        }
        return names;
    }

    private static int depth(String name, Map<String, Set<String>> calls, List<String> way) {
        way.add(name);
        int most = 1;
        for (String next : calls.get(name)) {
            if (!next.equals(name)) {
                Due.is("round of calls " + way + " " + next, way.contains(next) ? 1 : 0, 0);
                most = Math.max(most, way.contains(next) ? 1 : 1 + depth(next, calls, way));
            }
        }
        way.remove(name);
        return most;
    }

    /** Rules 3, 5 and 11: fields of few types, static ones final, some twenty in a class. */
    private static void fieldsAreFew(Class<?> where) {
        int count = 0;
        for (Field field : where.getDeclaredFields()) {
            Class<?> type = field.getType();
            boolean isNumber = type == int.class || type == long.class || type == boolean.class;
            boolean isOwn = type.getName().startsWith("WarmBeds") || type == int[].class;
            if (Modifier.isStatic(field.getModifiers())) {
                Due.is(field + " is final", Modifier.isFinal(field.getModifiers()) ? 1 : 0, 1);
                Due.is(field + " is a number", isNumber ? 1 : 0, 1);
            } else {
                count++;
                Due.is(field + " may stand there", isNumber || isOwn ? 1 : 0, 1);
            }
        }
        Due.is("fields of " + where + " are few", count <= 20 ? 1 : 0, 1);
    }

    /** Rule 11: "A method takes at most seven parameters." */
    private static void parametersAreFew(Class<?> where) {
        for (Method method : where.getDeclaredMethods()) {
            Due.is("parameters of " + method + " are few", method.getParameterCount() <= 7 ? 1 : 0, 1);
        }
        for (Constructor<?> constructor : where.getDeclaredConstructors()) {
            Due.is("parameters of " + constructor + " are few", constructor.getParameterCount() <= 7 ? 1 : 0, 1);
        }
    }
}
