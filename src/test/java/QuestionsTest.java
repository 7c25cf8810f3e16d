/**
 * "Nothing is promised beyond the answers and state changes described above": what is asked and answered changes
 * nothing, what is changed changes nothing else, the same question has the same answer up to the 512th call ("An
 * object is used for at most 512 calls after it has been made"), and no object knows of another.
 */
final class QuestionsTest {
    private static final String[] DAYS = {"", "ABCDa.EFGHb.a.", "AB?a.?C?", "AA", "?!",
        Due.times("A.aB.bC.c", 5) + "DEF"};
    private static final String[] QUESTIONS = {"fault", "judge 0", "judge 1", "bed 0 -1", "bed 2 0", "who 1 -1",
        "left -1 -1", "left -1 0", "slept 1 0", "slept 1 1", "slept 1 2", "fewest 0", "fewest 1", "when 7 1 0",
        "when 7 1 1", "best 7 0", "best 7 1", "reach 0", "party 128 -1", "party 224 2", "fleas 0 0", "fleas 12 1",
        "brought 1", "filled -1", "filled 0", "could 0", "could 2", "chance 0 8 3 0", "chance 4 5 10 1", "year 77 99 2",
        "year 1 1 4", "told 0", "told 3", "told 14"};
    private static final int CALLS = 512;

    public static void main(String[] args) {
        questionsChangeNothing();
        lastCallsOfDearQuestions();
        lastCallsOfUntoldDays();
        lastCallsThatChange();
        changesAreTakenBack();
        signsChangeTheDayAlone();
        sightsAreAsIfToldAtOnce();
        imagesLeaveWhatThereIs();
        objectsAreApart();
        Due.end();
    }

    private static String name(String call) {
        return call.split(" ")[0];
    }

    private static String arguments(String call) {
        return call.substring(name(call).length()).trim();
    }

    private static long ask(WarmBeds x, String call) {
        return Call.of(x, name(call), arguments(call));
    }

    private static void questionsChangeNothing() {
        for (String day : DAYS) {
            String whole = Whole.of(Due.lived(day));
            for (String call : QUESTIONS) {
                WarmBeds x = Due.lived(day);
                long once = ask(x, call);
                Due.is(call + " of " + day + ", asked again", ask(x, call), once);
                Due.are(call + " of " + day + " changes nothing: it", Whole.of(x), whole);
            }
            WarmBeds x = Due.lived(day);
            for (String call : QUESTIONS) {
                Due.is(call + " of " + day + ", behind others", ask(x, call), ask(Due.lived(day), call));
            }
            Due.are("all questions of " + day + " change nothing: it", Whole.of(x), whole);
        }
    }

    /** By turns until there have been 512 calls, those that made the object as it is among them. */
    private static void upToTheLast(String what, WarmBeds x, int before, String[] questions, long[] answers) {
        for (int call = before + 1; call <= CALLS; call++) {
            int k = call % questions.length;
            Due.is(what + ", call " + call + ", " + questions[k], ask(x, questions[k]), answers[k]);
        }
    }

    private static void lastCallsOfDearQuestions() {
        WarmBeds x = new WarmBeds();
        int before = 2;
        x.beds(8);
        x.rule(3);
        for (int guest = 0; guest < 6; guest++) {
            x.worth(guest, guest + 2, 99);
            before++;
        }
        for (int k = 0; k < 15; k++) {
            x.say('G');
            x.say('.');
            x.say('g');
            before += 3;
        }
        // No BED is dear to G and H: G has BED 7 each NIGHT, and H at the 16 places at which G is not there.
        String[] questions = {"party 63 -1", "party 63 5", "chance 7 8 10 0", "chance 0 8 10 1", "brought 64",
            "when 7 7 0", "best 5 1", "fewest 1", "slept 7 1", "left 45 7", "year 0 99 3"};
        long[] answers = {594, 5, 1, 1, 64, 16, 99, 1, 15, 0, 10};
        upToTheLast("dear questions", x, before, questions, answers);
    }

    private static void lastCallsOfUntoldDays() {
        WarmBeds x = new WarmBeds();
        String day = "?.?.?" + Due.times(".", 43);
        for (int k = 0; k < day.length(); k++) {
            x.say(day.charAt(k));
        }
        x.seen(7, 1);
        String[] questions = {"filled -1", "filled 0", "filled 1", "filled 2", "could 0", "could 1", "could 2",
            "told 0"};
        long[] answers = {42, 0, 1, 7, 127, 127, 128, 48};
        upToTheLast("days that are not told", x, day.length() + 1, questions, answers);
    }

    /** The PAD is filled and wiped, SIGHTS are told and forgotten, until there have been 512 calls. */
    private static void lastCallsThatChange() {
        WarmBeds x = new WarmBeds();
        for (int call = 1; call <= CALLS; call++) {
            int k = (call - 1) % 8;
            if (k < 3) {
                Due.is("call " + call + ", say", x.say("A.a".charAt(k)), k + 1);
            } else if (k == 3) {
                Due.is("call " + call + ", slept", x.slept(3, 0), 1);
            } else if (k == 4) {
                Due.is("call " + call + ", seen", x.seen(0, 3), 1);
            } else if (k == 5) {
                Due.is("call " + call + ", filled", x.filled(-1), 0);
            } else if (k == 6) {
                Due.is("call " + call + ", forget", x.forget(), 1);
            } else {
                Due.is("call " + call + ", wipe", x.wipe(), 3);
            }
        }
    }

    /** THE LAW, a WORTH: what was before is put back by what the call answered. */
    private static void changesAreTakenBack() {
        for (String day : DAYS) {
            String whole = Whole.of(Due.lived(day));
            for (int law = 0; law < 4; law++) {
                WarmBeds x = Due.lived(day);
                x.rule(x.rule(law));
                Due.are("LAW " + law + " there and back, " + day, Whole.of(x), whole);
            }
            for (int guest = 0; guest < 8; guest++) {
                for (int bed = 0; bed < 5; bed++) {
                    WarmBeds x = Due.lived(day);
                    x.worth(guest, bed, x.worth(guest, bed, 77));
                    Due.are("WORTH of " + bed + " to " + guest + " there and back, " + day, Whole.of(x), whole);
                }
            }
        }
    }

    private static void signsChangeTheDayAlone() {
        String signs = "AH?.!a";
        String day = "";
        for (char sign : signs.toCharArray()) {
            WarmBeds x = Due.lived(day);
            day += sign;
            Due.is("a sign more, " + day, x.say(sign), day.length());
            Due.are("a sign more, " + day, Whole.of(x), Whole.of(Due.lived(day)));
        }
        WarmBeds x = Due.lived(day);
        Due.is("signs go", x.wipe(), signs.length());
        Due.are("signs go", Whole.of(x), Whole.of(Due.lived("")));
    }

    private static void sightsAreAsIfToldAtOnce() {
        WarmBeds x = Due.lived("?C?");
        Due.is("a SIGHT more", x.seen(0, 0), 3);
        Due.is("SIGHTS go", x.forget(), 3);
        Due.is("as it was, one", x.seen(2, 3), 1);
        Due.is("as it was, two", x.seen(6, 1), 2);
        Due.are("SIGHTS there and back", Whole.of(x), Whole.of(Due.lived("?C?")));
    }

    /** What is kept and taken back at once is as it was; the other IMAGE is as it was, too. */
    private static void imagesLeaveWhatThereIs() {
        for (int n = 0; n < 2; n++) {
            WarmBeds x = Due.lived("AB?");
            WarmBeds twin = Due.lived("AB?");
            Due.is("kept in IMAGE " + n, x.image(n), 1);
            Due.is("kept by the twin", twin.image(n), 1);
            Due.is("taken back from IMAGE " + n, x.restore(n), 1);
            Due.are("kept in IMAGE " + n + " and taken back", Whole.of(x), Whole.of(twin));
            WarmBeds plain = Due.lived("AB?");
            x = Due.lived("AB?");
            x.image(n);
            x.restore(1 - n);
            plain.restore(1 - n);
            Due.is("WORTH by the other IMAGE", x.told(43), plain.told(43));
            Due.is("BEDS by the other IMAGE", x.told(1), plain.told(1));
            Due.is("THE LAW by the other IMAGE", x.told(2), plain.told(2));
            Due.is("SIGHTS by the other IMAGE", x.told(3), plain.told(3));
            x = Due.lived("AB?");
            plain = Due.lived("AB?");
            x.image(n);
            for (String call : QUESTIONS) {
                Due.is("behind IMAGE " + n + ", " + call, ask(x, call), ask(plain, call));
            }
        }
    }

    /** One object is asked between the calls that make another one as it is. */
    private static void objectsAreApart() {
        WarmBeds x = Due.lived("ABC.a");
        long[] answers = new long[QUESTIONS.length];
        for (int k = 0; k < QUESTIONS.length; k++) {
            answers[k] = ask(Due.lived("ABC.a"), QUESTIONS[k]);
        }
        WarmBeds y = new WarmBeds();
        for (int k = 0; k < QUESTIONS.length; k++) {
            y.say("?A.B!C?".charAt(k % 7));
            y.beds(2 + k % 7);
            y.rule(k % 4);
            y.worth(k % 8, 1, 50 + k % 50);
            y.seen(k % 8, 0);
            y.image(k % 2);
            y.filled(-1);
            y.year(k, 30, 0);
            Due.is("beside another object, " + QUESTIONS[k], ask(x, QUESTIONS[k]), answers[k]);
        }
        Due.are("beside another object", Whole.of(x), Whole.of(Due.lived("ABC.a")));
        Due.is("a new one beside them has four BEDS", new WarmBeds().told(1), 4);
        Due.is("a new one beside them has no sign", new WarmBeds().told(0), 0);
        Due.is("a new one beside them has no IMAGE", new WarmBeds().restore(0), -3);
    }
}
