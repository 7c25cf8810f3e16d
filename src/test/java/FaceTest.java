import java.lang.reflect.Constructor;
import java.lang.reflect.Field;
import java.lang.reflect.Method;
import java.lang.reflect.Modifier;
import java.nio.file.Files;
import java.nio.file.Path;
import java.util.Set;
import java.util.TreeSet;

/** The public face, just as the document tells it, and rule 1 of LANGUAGE.md. */
final class FaceTest {
    private static final String FACE = "public int beds(int)\npublic int worth(int,int,int)\npublic int rule(int)\n"
        + "public int say(int)\npublic int wipe()\npublic int fault()\npublic int judge(int)\npublic int bed(int,int)\n"
        + "public int who(int,int)\npublic int left(int,int)\npublic int slept(int,int)\npublic int fewest(int)\n"
        + "public int when(int,int,int)\npublic int best(int,int)\npublic int reach(int)\npublic int party(int,int)\n"
        + "public int fleas(int,int)\npublic int brought(int)\npublic int seen(int,int)\npublic int forget()\n"
        + "public int filled(int)\npublic int could(int)\npublic long chance(int,int,int,int)\n"
        + "public int year(int,int,int)\npublic int image(int)\npublic int restore(int)\npublic int told(int)\n";

    /** "Ahead of the calls ... the interface says: ---- ...", in the order of the document. */
    private static final String INTERFACE = "---- 1 beds, days beds worth rule say wipe fault judge "
        + "---- 2 nights bed who left slept fewest ---- 3 when to come when best reach party "
        + "---- 4 fleas, what is not told fleas brought seen forget filled could chance year image restore told";

    private static String faceOf(Method method) {
        return method.toString().replace("WarmBeds.", "");
    }

    public static void main(String[] args) throws Exception {
        Set<String> want = new TreeSet<>(Set.of(FACE.trim().split("\n")));
        Set<String> got = new TreeSet<>();
        Set<String> names = new TreeSet<>();
        for (Method method : WarmBeds.class.getDeclaredMethods()) {
            if (!Modifier.isPrivate(method.getModifiers())) {
                got.add(faceOf(method));
                names.add(method.getName());
            }
        }
        Due.are("the methods", got.toString(), want.toString());
        Due.is("the class is public and final", WarmBeds.class.getModifiers(), Modifier.PUBLIC | Modifier.FINAL);
        Due.is("the class is no other one's", WarmBeds.class.getSuperclass() == Object.class ? 1 : 0, 1);
        Due.is("the class takes on no more", WarmBeds.class.getInterfaces().length, 0);
        Due.are("the package", WarmBeds.class.getPackageName(), "");
        interfaceSays();
        constants();
        constructors();
        privateNames(WarmBeds.class, names);
        for (Class<?> inside : WarmBeds.class.getDeclaredClasses()) {
            Due.is(inside + " is static", Modifier.isStatic(inside.getModifiers()) ? 1 : 0, 1);
            Due.is(inside + " is public", Modifier.isPublic(inside.getModifiers()) ? 1 : 0, 0);
            privateNames(inside, names);
        }
        Due.end();
    }

    private static void interfaceSays() throws Exception {
        StringBuilder got = new StringBuilder();
        for (String line : Files.readAllLines(Path.of("src/main/java/WarmBeds.java"))) {
            if (line.matches("    // ---- \\d .*")) {
                got.append(line.trim().substring(3)).append(' ');
            } else if (line.matches("    public (int|long) \\w+\\(.*")) {
                got.append(line.replaceAll("    public \\w+ (\\w+)\\(.*", "$1")).append(' ');
            }
        }
        Due.are("the interface", got.toString(), INTERFACE);
    }

    private static void constants() {
        Set<String> got = new TreeSet<>();
        for (Field field : WarmBeds.class.getDeclaredFields()) {
            if (!Modifier.isPrivate(field.getModifiers())) {
                got.add(field.toString().replace("WarmBeds.", ""));
            }
        }
        Due.are("the constants", got.toString(), "[public static final int FULL, public static final int NO, "
            + "public static final int NONE, public static final int OUTSIDE, public static final int STATE, "
            + "public static final int UNKNOWN, public static final long LOST]");
        Due.is("NONE", WarmBeds.NONE, -6);
        Due.is("UNKNOWN", WarmBeds.UNKNOWN, -1);
        Due.is("OUTSIDE", WarmBeds.OUTSIDE, -2);
        Due.is("STATE", WarmBeds.STATE, -3);
        Due.is("FULL", WarmBeds.FULL, -4);
        Due.is("NO", WarmBeds.NO, -5);
        Due.is("LOST", WarmBeds.LOST, -1000000000000000000L);
    }

    private static void constructors() {
        Constructor<?>[] all = WarmBeds.class.getDeclaredConstructors();
        Due.is("constructors", all.length, 1);
        Due.are("the constructor", all[0].toString(), "public WarmBeds()");
    }

    private static void privateNames(Class<?> where, Set<String> names) {
        for (Method method : where.getDeclaredMethods()) {
            if (Modifier.isPrivate(method.getModifiers())) {
                Due.is(method + " bears a public name", names.contains(method.getName()) ? 1 : 0, 0);
            }
        }
    }
}
