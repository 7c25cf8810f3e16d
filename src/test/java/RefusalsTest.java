import java.util.ArrayList;
import java.util.List;

/**
 * "Calls that are refused answer, the first of these that fits: UNKNOWN, OUTSIDE, NO, STATE, FULL. They change
 * nothing." Each call of the face that can be refused, by each number one beyond its bounds and far beyond them,
 * on short and on full PADS whose DAYS are refused for each reason and for several at once.
 */
final class RefusalsTest {
    private static final int UNKNOWN = -1, OUTSIDE = -2, STATE = -3, FULL = -4, NO = -5, TAKEN = 0;
    private static final long LOST = -1000000000000000000L;

    /** What stands in a DAY that calls may be refused for. */
    private record Pad(String signs, boolean fault, boolean untold, boolean canNot) {
    }

    /** Which of these a call is refused for. */
    private enum Minds { NOTHING, FAULT, UNTOLD, ALL }

    private static final String START = "ABb";
    private static final List<Pad> PADS = new ArrayList<>();

    private final String name;
    private final Minds minds;
    private final long base;

    private RefusalsTest(String name, Minds minds, long base) {
        this.name = name;
        this.minds = minds;
        this.base = base;
    }

    public static void main(String[] args) {
        makePads();
        bedsAndDays();
        nights();
        whenToCome();
        fleasAndSights();
        whatIsNotTold();
        images();
        wherePadsDoNotMatter();
        Due.end();
    }

    private static void makePads() {
        String[] rests = {"", ".", "!", "?", "A", "d", "?!", "!?", "A!", "!A", "A?", "?A", "A?!", "????", "A????"};
        for (String rest : rests) {
            boolean fault = rest.contains("!") || rest.contains("????");
            boolean canNot = rest.contains("A") || rest.contains("d");
            String dots = Due.times(".", 48 - START.length() - rest.length());
            PADS.add(new Pad(START + rest, fault, rest.contains("?"), canNot));
            PADS.add(new Pad(START + dots + rest, fault, rest.contains("?"), canNot));
        }
    }

    private static RefusalsTest call(String name, Minds minds) {
        return new RefusalsTest(name, minds, 0);
    }

    /** What the DAY itself is refused for: a FAULT, then some ?, then an EVENT that can not be. */
    private int refusalOf(Pad pad) {
        if (minds != Minds.NOTHING && pad.fault) {
            return NO;
        }
        if ((minds == Minds.UNTOLD || minds == Minds.ALL) && pad.untold) {
            return STATE;
        }
        return minds == Minds.ALL && pad.canNot ? NO : TAKEN;
    }

    /** Whatever is on the PAD. */
    private RefusalsTest always(int refusal, String... calls) {
        for (Pad pad : PADS) {
            refusedOn(pad, refusal, calls);
        }
        return this;
    }

    /** By the DAY; if nothing is amiss in it, by what is told here for a PAD with room and for a full one. */
    private RefusalsTest byDay(int withRoom, int full, String... calls) {
        for (Pad pad : PADS) {
            int fine = pad.signs.length() < 48 ? withRoom : full;
            int refusal = refusalOf(pad) != TAKEN ? refusalOf(pad) : fine;
            if (refusal == TAKEN) {
                takenOn(pad, calls);
            } else {
                refusedOn(pad, refusal, calls);
            }
        }
        return this;
    }

    private void refusedOn(Pad pad, int refusal, String... calls) {
        String whole = Whole.of(Due.lived(pad.signs));
        for (String arguments : calls) {
            String what = Call.text(name, arguments) + " on " + pad.signs;
            Due.refused(what, () -> Due.lived(pad.signs), whole, x -> Call.of(x, name, arguments), base + refusal);
        }
    }

    private void takenOn(Pad pad, String... calls) {
        for (String arguments : calls) {
            long answer = Call.of(Due.lived(pad.signs), name, arguments);
            String what = Call.text(name, arguments) + " on " + pad.signs + ", answer " + answer + ": is refused";
            Due.is(what, answer >= 0 || answer == -6 ? 0 : 1, 0);
        }
    }

    private static void bedsAndDays() {
        call("say", Minds.NOTHING)
            .always(OUTSIDE, "32", "127", "0", "-1", "321", "MIN", "MAX")
            .byDay(TAKEN, FULL, "33", "126", "65", "46", "63");
        call("judge", Minds.UNTOLD)
            .always(OUTSIDE, "-1", "2", "MIN", "MAX")
            .byDay(TAKEN, TAKEN, "0", "1");
    }

    private static void nights() {
        call("bed", Minds.ALL)
            .always(UNKNOWN, "-1 -1", "8 -1", "MIN 0", "MAX 0", "-1 -2", "8 EVENTS+1")
            .always(OUTSIDE, "0 -2", "7 EVENTS+1", "0 MIN", "0 MAX")
            .byDay(TAKEN, TAKEN, "0 -1", "7 EVENTS");
        call("who", Minds.ALL)
            .always(UNKNOWN, "-1 -1", "BEDS -1", "MIN 0", "MAX 0", "-1 -2", "BEDS EVENTS+1")
            .always(OUTSIDE, "0 -2", "4 EVENTS+1", "0 MIN", "0 MAX")
            .byDay(TAKEN, TAKEN, "0 -1", "4 EVENTS");
        call("left", Minds.ALL)
            .always(OUTSIDE, "-2 0", "EVENTS+1 0", "MIN 0", "MAX 0", "-2 -2", "EVENTS+1 -1")
            .byDay(TAKEN, TAKEN, "-1 -1", "EVENTS 0", "-1 -2", "EVENTS MIN", "-1 MAX");
        call("slept", Minds.ALL)
            .always(UNKNOWN, "-1 0", "BEDS 0", "MIN 0", "MAX 0", "-1 -1", "BEDS 3")
            .always(OUTSIDE, "0 -1", "4 3", "0 MIN", "0 MAX")
            .byDay(TAKEN, TAKEN, "0 0", "4 2");
        call("fewest", Minds.ALL)
            .always(OUTSIDE, "-1", "2", "MIN", "MAX")
            .byDay(TAKEN, TAKEN, "0", "1");
    }

    /** A comes, B comes and goes on each PAD; D goes on some. */
    private static void whenToCome() {
        call("when", Minds.ALL)
            .always(UNKNOWN, "-1 0 0", "8 0 0", "2 -1 0", "2 BEDS 0", "MIN 0 0", "MAX 0 0", "2 MIN 0", "2 MAX 0")
            .always(UNKNOWN, "0 0 0", "1 0 1", "8 0 2", "2 BEDS -1", "0 0 2", "1 BEDS -1")
            .always(OUTSIDE, "2 0 -1", "7 4 2", "2 0 MIN", "2 0 MAX")
            .byDay(TAKEN, FULL, "2 0 0", "7 4 1");
        call("best", Minds.ALL)
            .always(UNKNOWN, "-1 0", "8 0", "MIN 0", "MAX 0", "0 0", "1 1", "8 2", "-1 -1", "0 2", "1 -1")
            .always(OUTSIDE, "2 -1", "7 2", "2 MIN", "2 MAX")
            .byDay(TAKEN, FULL, "2 0", "7 1");
        call("reach", Minds.ALL)
            .always(UNKNOWN, "-1", "BEDS", "MIN", "MAX")
            .byDay(TAKEN, TAKEN, "0", "4");
        call("party", Minds.ALL)
            .always(OUTSIDE, "0 -1", "256 -1", "-1 0", "MIN 0", "MAX 0", "0 -2")
            .byDay(NO, NO, "1 -1", "1 0", "3 -2", "255 -1", "127 0", "255 MAX")
            .byDay(FULL, FULL, "254 -1", "254 0", "254 -2", "254 MAX")
            .byDay(TAKEN, TAKEN, "2 -1", "128 0", "252 5", "126 6", "2 -2", "4 MIN", "4 MAX");
    }

    private static void fleasAndSights() {
        call("fleas", Minds.ALL)
            .always(UNKNOWN, "-1 0", "8+BEDS 0", "MIN 0", "MAX 0", "-1 -1", "8+BEDS 2")
            .always(OUTSIDE, "0 -1", "12 2", "7 MIN", "8 MAX")
            .byDay(TAKEN, TAKEN, "0 0", "7 1", "8 0", "12 1");
        call("brought", Minds.ALL)
            .always(OUTSIDE, "-1", "256", "MIN", "MAX")
            .byDay(TAKEN, TAKEN, "0", "255");
        call("seen", Minds.NOTHING)
            .always(UNKNOWN, "-1 0", "8 0", "0 -1", "0 BEDS", "MIN 0", "MAX 0", "0 MIN", "0 MAX")
            .byDay(TAKEN, TAKEN, "0 0", "7 4");
    }

    private static void whatIsNotTold() {
        call("filled", Minds.FAULT)
            .byDay(TAKEN, TAKEN, "-1", "0", "2", "3", "-2", "MIN", "MAX");
        call("could", Minds.FAULT)
            .byDay(TAKEN, TAKEN, "-1", "0", "2", "3", "-2", "MIN", "MAX");
        new RefusalsTest("chance", Minds.ALL, LOST)
            .always(UNKNOWN, "-1 0 0 0", "BEDS 0 0 0", "MIN 0 0 0", "MAX 0 0 0", "-1 9 0 0", "BEDS 0 11 2")
            .always(OUTSIDE, "0 -1 0 0", "0 9 0 0", "0 MIN 0 0", "0 MAX 0 0", "4 0 -1 0", "4 0 11 0", "0 0 MIN 0")
            .always(OUTSIDE, "0 0 MAX 0", "0 0 0 -1", "4 8 10 2", "0 0 0 MIN", "0 0 0 MAX", "0 9 11 2")
            .byDay(TAKEN, TAKEN, "0 0 0 0", "4 2 10 1");
        call("year", Minds.NOTHING)
            .always(UNKNOWN, "0 1 -1", "0 1 BEDS", "0 1 MIN", "0 1 MAX", "-1 1 -1", "0 0 BEDS", "10000 100 BEDS")
            .always(OUTSIDE, "-1 1 0", "10000 1 4", "MIN 1 0", "MAX 1 0", "0 0 0", "0 100 4", "0 MIN 0", "0 MAX 0")
            .byDay(TAKEN, TAKEN, "0 1 0", "9999 99 4");
    }

    private static void images() {
        call("image", Minds.NOTHING)
            .always(OUTSIDE, "-1", "2", "MIN", "MAX")
            .byDay(TAKEN, TAKEN, "0", "1");
        call("restore", Minds.NOTHING)
            .always(OUTSIDE, "-1", "2", "MIN", "MAX")
            .byDay(TAKEN, TAKEN, "0", "1");
        call("told", Minds.NOTHING)
            .always(OUTSIDE, "-1", "4", "9", "15", "19", "85", "87", "88", "90", "MIN", "MAX")
            .byDay(TAKEN, TAKEN, "0", "1", "2", "3", "10", "14", "80", "84");
    }

    private static void wherePadsDoNotMatter() {
        call("beds", Minds.NOTHING)
            .always(OUTSIDE, "1", "9", "0", "-1", "MIN", "MAX")
            .byDay(TAKEN, TAKEN, "2", "5", "8");
        call("worth", Minds.NOTHING)
            .always(UNKNOWN, "-1 0 0", "8 0 0", "0 -1 0", "0 BEDS 0", "MIN 0 0", "MAX 0 0", "0 MIN 0", "0 MAX 0")
            .always(UNKNOWN, "-1 0 -1", "8 0 100", "0 -1 100", "0 BEDS -1")
            .always(OUTSIDE, "0 0 -1", "7 4 100", "0 4 MIN", "7 0 MAX")
            .byDay(TAKEN, TAKEN, "0 0 0", "7 4 99");
        call("rule", Minds.NOTHING)
            .always(OUTSIDE, "-1", "4", "MIN", "MAX")
            .byDay(TAKEN, TAKEN, "0", "3");
        call("wipe", Minds.NOTHING).byDay(TAKEN, TAKEN, "");
        call("fault", Minds.NOTHING).byDay(TAKEN, TAKEN, "");
        call("forget", Minds.NOTHING).byDay(TAKEN, TAKEN, "");
    }
}
