import java.util.function.Supplier;
import java.util.function.ToLongFunction;

/** What the tests of the project share: a count of wrong answers, and days put on the PAD as texts. */
final class Due {
    private static int wrong = 0;

    private Due() {
    }

    static void is(String what, long got, long want) {
        if (got != want) {
            wrong++;
            System.out.println(what + " answered " + got + ", due is " + want);
        }
    }

    /** Answers are told one behind another. */
    static void are(String what, String got, String want) {
        if (!got.trim().equals(want.trim())) {
            wrong++;
            System.out.println(what + " answered " + got + ", due is " + want);
        }
    }

    static WarmBeds day(String text) {
        WarmBeds x = new WarmBeds();
        write(x, text);
        return x;
    }

    static void write(WarmBeds x, String text) {
        x.wipe();
        for (int k = 0; k < text.length(); k++) {
            is("say of sign " + k + " of " + text, x.say(text.charAt(k)), k + 1);
        }
    }

    static WarmBeds inn(int beds, String day) {
        WarmBeds x = new WarmBeds();
        is("beds(" + beds + ")", x.beds(beds), 4);
        write(x, day);
        return x;
    }

    /** An inn in which much is no more as at first; both IMAGES are kept, each of another inn. */
    static WarmBeds lived(String day) {
        WarmBeds x = new WarmBeds();
        x.beds(3);
        x.rule(1);
        x.worth(1, 2, 7);
        x.seen(6, 2);
        x.image(0);
        x.beds(5);
        x.rule(3);
        x.worth(0, 4, 99);
        x.worth(2, 3, 50);
        x.worth(7, 0, 1);
        x.seen(2, 3);
        x.image(1);
        x.worth(6, 1, 20);
        x.seen(6, 1);
        write(x, day);
        return x;
    }

    /** The call is made on one of two objects that are alike; they must be alike behind it, too. */
    static void refused(String what, Supplier<WarmBeds> made, ToLongFunction<WarmBeds> call, long want) {
        refused(what, made, Whole.of(made.get()), call, want);
    }

    /** The same, where many calls share what the object was ahead of them. */
    static void refused(String what, Supplier<WarmBeds> made, String whole, ToLongFunction<WarmBeds> call,
        long want) {
        WarmBeds x = made.get();
        is(what, call.applyAsLong(x), want);
        are(what + " changes nothing: it", Whole.of(x), whole);
    }

    static String times(String text, int count) {
        StringBuilder all = new StringBuilder();
        for (int k = 0; k < count; k++) {
            all.append(text);
        }
        return all.toString();
    }

    static void end() {
        System.out.println(wrong == 0 ? "all answers are as due" : wrong + " answers are not as due");
        if (wrong != 0) {
            System.exit(1);
        }
    }
}
