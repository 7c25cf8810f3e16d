/** What the tests of the project share: a count of wrong answers, and days put on the PAD as texts. */
final class Due {
    private static int wrong = 0;

    private Due() {
    }

    static void is(String what, long got, long want) {
        if (got != want) {
            wrong++;
            System.out.println(what + " answered " + got + ", due is " + want);
        }
    }

    /** Answers are told one behind another. */
    static void are(String what, String got, String want) {
        if (!got.trim().equals(want.trim())) {
            wrong++;
            System.out.println(what + " answered " + got + ", due is " + want);
        }
    }

    static WarmBeds day(String text) {
        WarmBeds x = new WarmBeds();
        write(x, text);
        return x;
    }

    static void write(WarmBeds x, String text) {
        x.wipe();
        for (int k = 0; k < text.length(); k++) {
            is("say of sign " + k + " of " + text, x.say(text.charAt(k)), k + 1);
        }
    }

    static String times(String text, int count) {
        StringBuilder all = new StringBuilder();
        for (int k = 0; k < count; k++) {
            all.append(text);
        }
        return all.toString();
    }

    static void end() {
        System.out.println(wrong == 0 ? "all answers are as due" : wrong + " answers are not as due");
        if (wrong != 0) {
            System.exit(1);
        }
    }
}
