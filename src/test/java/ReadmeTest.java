import java.io.IOException;
import java.lang.reflect.Method;
import java.lang.reflect.Modifier;
import java.net.URL;
import java.net.URLClassLoader;
import java.nio.file.DirectoryStream;
import java.nio.file.Files;
import java.nio.file.Path;
import java.util.ArrayList;
import java.util.List;
import java.util.Set;
import java.util.TreeSet;
import java.util.regex.Matcher;
import java.util.regex.Pattern;
import javax.tools.ToolProvider;

/** The example of README.md compiles as it stands there, and answers what is told behind each of its calls. */
final class ReadmeTest {
    private static final Pattern EXAMPLE = Pattern.compile("(?s)```java\n(.*?)```");
    private static final Pattern ANSWERED = Pattern.compile("(inn\\.(\\w+)\\(.*\\)); +// (-?\\d+)([:,].*)?");
    /** The call that writes a DAY stands in a loop, where the answer is another one each time. */
    private static final String WRITING = "    inn.say(sign);";

    private static final List<String> calls = new ArrayList<>();
    private static final List<Long> wanted = new ArrayList<>();

    public static void main(String[] args) throws Exception {
        String readme = Files.readString(Path.of("README.md"));
        Matcher example = EXAMPLE.matcher(readme);
        Due.is("README.md has an example", example.find() ? 1 : 0, 1);
        String code = example.group(1);
        Due.is("README.md has one more", example.find() ? 1 : 0, 0);
        everyCallIsAnswered(code);
        List<?> answers = answersOf(sourceOf(code));
        for (int k = 0; k < answers.size(); k++) {
            Due.is("README.md, " + calls.get(k), (Long) answers.get(k), wanted.get(k));
        }
        everyTestIsTold(readme);
        Due.end();
    }

    private static void everyCallIsAnswered(String code) {
        Set<String> shown = new TreeSet<>();
        for (String line : code.split("\n")) {
            if (line.contains("inn.") && !line.equals(WRITING)) {
                Matcher answered = ANSWERED.matcher(line);
                boolean isAnswered = answered.matches();
                Due.is("an answer stands behind " + line, isAnswered ? 1 : 0, 1);
                shown.add(isAnswered ? answered.group(2) : "");
            }
        }
        for (Method method : WarmBeds.class.getDeclaredMethods()) {
            if (Modifier.isPublic(method.getModifiers())) {
                Due.is("README.md shows " + method.getName(), shown.contains(method.getName()) ? 1 : 0, 1);
            }
        }
    }

    /** A class that makes the calls of the example, as they stand there, and keeps what they answer. */
    private static String sourceOf(String code) {
        StringBuilder body = new StringBuilder();
        for (String line : code.split("\n")) {
            Matcher answered = ANSWERED.matcher(line);
            if (answered.matches()) {
                calls.add(answered.group(1));
                wanted.add(Long.parseLong(answered.group(3)));
                body.append("all.add((long) ").append(answered.group(1)).append(");\n");
            } else {
                body.append(line).append('\n');
            }
        }
        return "public final class Example { public static java.util.List<Long> answers() {\n"
            + "java.util.List<Long> all = new java.util.ArrayList<>();\n" + body + "return all;\n}\n}\n";
    }

    private static List<?> answersOf(String source) throws Exception {
        Path place = Files.createTempDirectory("readme");
        try {
            Path file = place.resolve("Example.java");
            Files.writeString(file, source);
            int problems = ToolProvider.getSystemJavaCompiler().run(null, null, null, "-cp",
                System.getProperty("java.class.path"), "-d", place.toString(), file.toString());
            Due.is("problems when the example of README.md is compiled", problems, 0);
            URL[] where = {place.toUri().toURL()};
            try (URLClassLoader loader = new URLClassLoader(where, ReadmeTest.class.getClassLoader())) {
                return problems != 0 ? List.of()
                    : (List<?>) loader.loadClass("Example").getMethod("answers").invoke(null);
            }
        } finally {
            delete(place);
        }
    }

    private static void delete(Path place) throws IOException {
        try (DirectoryStream<Path> files = Files.newDirectoryStream(place)) {
            for (Path file : files) {
                Files.delete(file);
            }
        }
        Files.delete(place);
    }

    /** Each test of the project stands in README.md by its name. */
    private static void everyTestIsTold(String readme) throws IOException {
        try (DirectoryStream<Path> files = Files.newDirectoryStream(Path.of("src/test/java"), "*Test.java")) {
            for (Path file : files) {
                String name = file.getFileName().toString().replace(".java", "");
                Due.is("README.md tells of " + name, readme.contains("`" + name + "`") ? 1 : 0, 1);
            }
        }
    }
}
