import java.lang.reflect.Method;

/** A call of the face by its name, with the arguments as a test writes them. */
final class Call {
    private Call() {
    }

    static long of(WarmBeds x, String name, String arguments) {
        String[] words = arguments.isEmpty() ? new String[0] : arguments.split(" ");
        Object[] numbers = new Object[words.length];
        for (int k = 0; k < words.length; k++) {
            numbers[k] = number(x, words[k]);
        }
        try {
            return ((Number) method(name).invoke(x, numbers)).longValue();
        } catch (ReflectiveOperationException e) {
            throw new IllegalStateException(text(name, arguments), e);
        }
    }

    static String text(String name, String arguments) {
        return name + "(" + arguments.replace(" ", ", ") + ")";
    }

    private static int number(WarmBeds x, String word) {
        switch (word) {
            case "MIN":
                return Integer.MIN_VALUE;
            case "MAX":
                return Integer.MAX_VALUE;
            case "BEDS":
                return x.told(1);
            case "8+BEDS":
                return 8 + x.told(1);
            case "EVENTS":
                return x.told(0);
            case "EVENTS+1":
                return x.told(0) + 1;
            default:
                return Integer.parseInt(word);
        }
    }

    private static Method method(String name) {
        for (Method method : WarmBeds.class.getMethods()) {
            if (method.getName().equals(name)) {
                return method;
            }
        }
        throw new IllegalStateException("no method " + name);
    }
}
