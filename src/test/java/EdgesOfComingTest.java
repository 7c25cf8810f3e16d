/** "## Terms", part 3, and promises 14 to 17: what holds at each boundary that they name. */
final class EdgesOfComingTest {
    private static final int NONE = -6, UNKNOWN = -1, OUTSIDE = -2, STATE = -3, FULL = -4, NO = -5;
    private static final int MIN = Integer.MIN_VALUE, MAX = Integer.MAX_VALUE;

    public static void main(String[] args) {
        whoNeitherComesNorGoes();
        placesOfAnEmptyDay();
        firstAndLastPlaces();
        placesInTheYard();
        whenWhat();
        fullPads();
        bestPlaces();
        bestIsTheFirst();
        bestOfNone();
        bestWhat();
        reachedByLaws();
        reachedWithSomeThere();
        reachedWithAllTaken();
        strangersHaveNoWorths();
        reachIsRefused();
        partySets();
        partyOfWhoIsThere();
        partyOfSix();
        partyByLetters();
        partyInTheYard();
        partyByPlaces();
        partyIsRefused();
        Due.end();
    }

    /** "a GUEST who neither comes nor goes in the DAY": else UNKNOWN. */
    private static void whoNeitherComesNorGoes() {
        Due.refused("14: comes in the first place", () -> Due.lived("HBb."), x -> x.when(7, 0, 0), UNKNOWN);
        Due.refused("14: comes in the last place", () -> Due.lived(".BbA"), x -> x.when(0, 0, 0), UNKNOWN);
        Due.refused("14: only goes", () -> Due.lived("..h"), x -> x.when(7, 0, 0), UNKNOWN);
        Due.refused("14: comes behind a FAULT", () -> Due.lived("!A"), x -> x.when(0, 0, 1), UNKNOWN);
        Due.refused("15: comes in the first place", () -> Due.lived("HBb."), x -> x.best(7, 0), UNKNOWN);
        Due.refused("15: comes in the last place", () -> Due.lived(".BbA"), x -> x.best(0, 0), UNKNOWN);
        Due.refused("15: only goes", () -> Due.lived("..h"), x -> x.best(7, 1), UNKNOWN);
        Due.refused("15: comes behind a FAULT", () -> Due.lived("!A"), x -> x.best(0, 0), UNKNOWN);
        WarmBeds x = Due.day(Due.times(".", 46) + "H");
        Due.is("14: comes in the last place of 47", x.when(7, 0, 0), UNKNOWN);
        Due.is("14: next to who comes", x.when(6, 3, 0), 47);
        Due.is("15: next to who comes", x.best(6, 0), 0);
        x = Due.day("BGbg");
        Due.is("14: GUEST 0, beside B", x.when(0, 3, 0), 2);
        Due.is("14: GUEST 7, beside G", x.when(7, 3, 0), 2);
        Due.is("14: GUEST -1", x.when(-1, 0, 0), UNKNOWN);
        Due.is("14: GUEST 8", x.when(8, 0, 0), UNKNOWN);
        Due.is("14: BED -1", x.when(0, -1, 0), UNKNOWN);
        Due.is("14: BED 0", x.when(0, 0, 0), 0);
        Due.is("14: BED n", x.when(0, 4, 0), UNKNOWN);
        Due.is("15: GUEST -1", x.best(-1, 0), UNKNOWN);
        Due.is("15: GUEST 0", x.best(0, 0), 0);
        Due.is("15: GUEST 7", x.best(7, 0), 0);
        Due.is("15: GUEST 8", x.best(8, 0), UNKNOWN);
    }

    private static void when(String what, WarmBeds x, int guest, int bed, int places, int first) {
        Due.is("14: how many places, " + what, x.when(guest, bed, 0), places);
        Due.is("14: the first, " + what, x.when(guest, bed, 1), first);
    }

    /** "at a place in it (0: ahead of all EVENTS, up to behind all)": there is one place. */
    private static void placesOfAnEmptyDay() {
        when("no EVENT, the BED left last", Due.inn(2, ""), 0, 1, 1, 0);
        when("no EVENT, the BED left first", Due.inn(2, ""), 0, 0, 0, NONE);
        when("no EVENT, GUEST 7 and BED 7", Due.inn(8, ""), 7, 7, 1, 0);
        Due.is("15: no EVENT, the place", Due.inn(2, "").best(0, 0), 0);
        Due.is("15: no EVENT, WORTH", Due.inn(2, "").best(0, 1), 0);
    }

    /** One EVENT makes two places, 47 make 48. */
    private static void firstAndLastPlaces() {
        when("one EVENT, ahead of it", Due.inn(2, "A"), 7, 1, 1, 0);
        when("one EVENT, behind it", Due.inn(2, "A"), 7, 0, 1, 1);
        when("47 EVENTS, all places", Due.inn(2, Due.times(".", 47)), 7, 1, 48, 0);
        when("47 EVENTS, no place", Due.inn(2, Due.times(".", 47)), 7, 0, 0, NONE);
        WarmBeds x = Due.inn(2, "A" + Due.times(".", 46));
        when("47 EVENTS, ahead of all alone", x, 7, 1, 1, 0);
        when("47 EVENTS, all but the first place", x, 7, 0, 47, 1);
        x = Due.inn(2, Due.times(".", 46) + "A");
        when("47 EVENTS, behind all alone", x, 7, 0, 1, 47);
        when("47 EVENTS, all but the last place", x, 7, 1, 47, 0);
    }

    /** "it has a told BED behind all EVENTS": who waits then has none, who has waited has one. */
    private static void placesInTheYard() {
        when("waits behind all, the last BED", Due.inn(2, "AB"), 2, 1, 1, 0);
        when("waits behind all, BED 0", Due.inn(2, "AB"), 2, 0, 1, 1);
        when("has waited, the BED that is left", Due.inn(2, "ABa"), 2, 1, 3, 0);
        when("has waited, the other BED", Due.inn(2, "ABa"), 2, 0, 1, 1);
        when("the first place is the one in which it waits", Due.inn(2, "ABb"), 2, 0, 3, 1);
        when("behind others who wait, the last BED", Due.inn(2, "ABCDEab"), 7, 1, 2, 0);
        when("behind others who wait, BED 0", Due.inn(2, "ABCDEab"), 7, 0, 2, 1);
    }

    /** "at how many places (what = 0), the first (1; NONE)" */
    private static void whenWhat() {
        Due.refused("14: what -1", () -> Due.lived("A"), x -> x.when(3, 0, -1), OUTSIDE);
        Due.is("14: what 0", Due.day("A").when(3, 2, 0), 1);
        Due.is("14: what 1", Due.day("A").when(3, 2, 1), 1);
        Due.is("14: what 1, no place", Due.day("A").when(3, 1, 1), NONE);
        Due.refused("14: what 2", () -> Due.lived("A"), x -> x.when(3, 0, 2), OUTSIDE);
    }

    /** "FULL: there are 48 EVENTS", the last of the refusals. */
    private static void fullPads() {
        String dots = Due.times(".", 47);
        Due.is("14: 47 EVENTS", Due.day(dots).when(0, 3, 0), 48);
        Due.refused("14: 48 EVENTS", () -> Due.lived(dots + "."), x -> x.when(0, 3, 0), FULL);
        Due.is("14: 48 EVENTS, one can not be", Due.day(dots + "b").when(0, 3, 0), NO);
        Due.is("14: 48 EVENTS, some ?", Due.day(dots + "?").when(0, 3, 0), STATE);
        Due.is("14: 48 EVENTS, a FAULT", Due.day(dots + "!").when(0, 3, 0), NO);
        Due.is("14: 48 EVENTS, what 2", Due.day(dots + ".").when(0, 3, 2), OUTSIDE);
        Due.is("14: 48 EVENTS, who comes", Due.day(dots + "A").when(0, 3, 0), UNKNOWN);
        Due.is("15: 47 EVENTS", Due.day(dots).best(0, 0), 0);
        Due.refused("15: 48 EVENTS", () -> Due.lived(dots + "."), x -> x.best(0, 0), FULL);
        Due.is("15: 48 EVENTS, one can not be", Due.day(dots + "b").best(0, 0), NO);
        Due.is("15: 48 EVENTS, some ?", Due.day(dots + "?").best(0, 0), STATE);
        Due.is("15: 48 EVENTS, a FAULT", Due.day(dots + "!").best(0, 0), NO);
        Due.is("15: 48 EVENTS, what 2", Due.day(dots + ".").best(0, 2), OUTSIDE);
        Due.is("15: 48 EVENTS, who comes", Due.day(dots + "A").best(0, 0), UNKNOWN);
    }

    private static void best(String what, WarmBeds x, int guest, int place, int worth) {
        Due.is("15: the place, " + what, x.best(guest, 0), place);
        Due.is("15: WORTH, " + what, x.best(guest, 1), worth);
    }

    /** "BEST: the place by which WORTH of the BED that it has then is most": the first place, the last one. */
    private static void bestPlaces() {
        WarmBeds x = Due.inn(2, "A" + Due.times(".", 46));
        x.worth(7, 1, 99);
        x.worth(7, 0, 98);
        best("99 ahead of all, 98 else", x, 7, 0, 99);
        x.worth(7, 0, 99);
        x.worth(7, 1, 98);
        best("98 ahead of all, 99 else", x, 7, 1, 99);
        x = Due.inn(2, Due.times(".", 46) + "A");
        x.worth(7, 0, 1);
        best("1 behind all, 0 else", x, 7, 47, 1);
        x.worth(7, 1, 2);
        best("1 behind all, 2 else", x, 7, 0, 2);
        x.worth(6, 0, 99);
        best("WORTH to another GUEST", x, 7, 0, 2);
    }

    /** "..., the first." */
    private static void bestIsTheFirst() {
        best("all places alike, WORTH 0", Due.inn(2, Due.times(".", 47)), 0, 0, 0);
        WarmBeds x = Due.inn(2, Due.times(".", 47));
        x.worth(0, 1, 99);
        best("all places alike, WORTH 99", x, 0, 0, 99);
        x = Due.inn(3, "AB");
        x.worth(2, 0, 5);
        x.worth(2, 1, 5);
        best("the first of two", x, 2, 1, 5);
        x.worth(2, 2, 5);
        best("the first of three", x, 2, 0, 5);
    }

    /** "(none: -1)": who waits at a place; ahead of all EVENTS a BED is always to be had, so it never is the answer. */
    private static void bestOfNone() {
        best("waits at all places but two, no WORTH", Due.inn(2, "ABCDEFG"), 7, 0, 0);
        WarmBeds x = Due.inn(2, "ABCDEFG");
        x.worth(7, 0, 1);
        best("waits at all places but two", x, 7, 1, 1);
        x = Due.inn(2, "ABa");
        x.worth(2, 0, 3);
        x.worth(2, 1, 4);
        best("has waited", x, 2, 0, 4);
        x = Due.inn(2, "ABb");
        x.worth(2, 0, 4);
        x.worth(2, 1, 3);
        best("has waited, too", x, 2, 1, 4);
    }

    /** 15: "the place (what = 0), WORTH then (1 ...)" */
    private static void bestWhat() {
        WarmBeds x = Due.inn(2, "A");
        x.worth(3, 0, 9);
        Due.is("15: what -1", x.best(3, -1), OUTSIDE);
        Due.is("15: what 0", x.best(3, 0), 1);
        Due.is("15: what 1", x.best(3, 1), 9);
        Due.is("15: what 2", x.best(3, 2), OUTSIDE);
    }

    /** "REACH: how many strangers ... must come behind the DAY till a BED is taken": 1 at least, n at most. */
    private static void reachedByLaws() {
        for (int n = 2; n <= 8; n++) {
            WarmBeds x = Due.inn(n, "");
            for (int law = 0; law < 4; law++) {
                x.rule(law);
                boolean fromTheLast = law == 0 || law == 3;
                for (int bed = 0; bed < n; bed++) {
                    String what = "16: " + n + " BEDS, LAW " + law + ", BED " + bed;
                    Due.is(what, x.reach(bed), fromTheLast ? n - bed : bed + 1);
                }
            }
        }
    }

    /** "(0: it is)" */
    private static void reachedWithSomeThere() {
        WarmBeds x = Due.inn(3, "ABa");
        Due.is("16: it is taken", x.reach(1), 0);
        Due.is("16: left last", x.reach(2), 1);
        Due.is("16: left first", x.reach(0), 2);
        x.rule(1);
        Due.is("16: left last, LAW 1", x.reach(0), 2);
        Due.is("16: left first, LAW 1", x.reach(2), 1);
        Due.is("16: one left by LAW 0", Due.inn(2, "A").reach(0), 1);
        Due.is("16: behind a full PAD", Due.inn(2, "A" + Due.times(".", 47)).reach(0), 1);
    }

    private static void reachedWithAllTaken() {
        for (int bed = 0; bed < 8; bed++) {
            Due.is("16: every BED is taken, BED " + bed, Due.inn(8, "ABCDEFGH").reach(bed), 0);
        }
        Due.is("16: all that can wait do, BED 0", Due.inn(2, "ABCDEFGH").reach(0), 0);
        Due.is("16: all that can wait do, BED 1", Due.inn(2, "ABCDEFGH").reach(1), 0);
    }

    /** "strangers (whose WORTHS are 0)" */
    private static void strangersHaveNoWorths() {
        WarmBeds x = Due.inn(4, "");
        x.rule(3);
        for (int guest = 0; guest < 8; guest++) {
            x.worth(guest, 0, 99);
        }
        Due.is("16: dear to all GUESTS, BED 0", x.reach(0), 4);
        Due.is("16: dear to nobody, BED 3", x.reach(3), 1);
        Due.is("24: dear to all GUESTS, BED 0", x.chance(0, 1, 10, 0), 0);
        Due.is("24: dear to nobody, BED 3", x.chance(3, 1, 10, 0), 1);
    }

    private static void reachIsRefused() {
        Due.is("16: BED -1", Due.day("").reach(-1), UNKNOWN);
        Due.is("16: BED n", Due.day("").reach(4), UNKNOWN);
        Due.is("16: BED n, though there is a FAULT", Due.day("!").reach(4), UNKNOWN);
        Due.is("16: a FAULT ahead of some ?", Due.day("?!").reach(0), NO);
        Due.is("16: some ? ahead of what can not be", Due.day("b?").reach(0), STATE);
        Due.is("16: it can not be", Due.day("b").reach(0), NO);
    }

    private static void party(String what, WarmBeds x, int set, int worths, String order) {
        Due.is("17: WORTHS, " + what, x.party(set, -1), worths);
        for (int i = 0; i < order.length(); i++) {
            Due.is("17: GUEST " + i + ", " + what, x.party(set, i), order.charAt(i) - 'A');
        }
        Due.is("17: i past the last, " + what, x.party(set, order.length()), NONE);
        Due.is("17: i below -1, " + what, x.party(set, -2), NONE);
        Due.is("17: i the least of all numbers, " + what, x.party(set, MIN), NONE);
        Due.is("17: i the greatest of all numbers, " + what, x.party(set, MAX), NONE);
    }

    /** "OUTSIDE: bits 1 to 255" */
    private static void partySets() {
        Due.refused("17: no set, 0", () -> Due.lived("."), x -> x.party(0, -1), OUTSIDE);
        party("bits 1, the first", Due.day(""), 1, 0, "A");
        party("bits 128", Due.day(""), 128, 0, "H");
        Due.refused("17: bits 255, the last, are more than 6", () -> Due.lived("."), x -> x.party(255, -1), FULL);
        Due.refused("17: bits 256", () -> Due.lived("."), x -> x.party(256, -1), OUTSIDE);
        Due.refused("17: bits -1", () -> Due.lived("."), x -> x.party(-1, -1), OUTSIDE);
    }

    /** "(bits; none of them there)", "also one of them is there: NO", ahead of FULL. */
    private static void partyOfWhoIsThere() {
        Due.refused("17: one is in a BED", () -> Due.lived("A"), x -> x.party(1, -1), NO);
        Due.refused("17: the last of two is in a BED", () -> Due.lived("H"), x -> x.party(129, 0), NO);
        Due.refused("17: one waits", () -> Due.lived("ABCDEF"), x -> x.party(32, -1), NO);
        party("one was in a BED and went", Due.inn(2, "Aa"), 1, 0, "A");
        party("one has waited and went", Due.inn(2, "ABCc"), 4, 0, "C");
        party("all others", Due.inn(2, "AB"), 252, 0, "CDEFGH");
        Due.is("17: all eight of a set, one is there", Due.day("A").party(255, -1), NO);
        Due.is("17: seven of a set, one is there", Due.day("A").party(127, -1), NO);
        Due.is("17: seven of a set, none is there", Due.day("A").party(254, -1), FULL);
    }

    /** "FULL: more than 6" */
    private static void partyOfSix() {
        party("six, the first letters", Due.inn(8, ""), 63, 0, "ABCDEF");
        party("six, the last letters", Due.inn(8, ""), 252, 0, "CDEFGH");
        party("six, letters apart", Due.inn(8, ""), 255 - 2 - 64, 0, "ACDEFH");
        party("five", Due.inn(8, ""), 31, 0, "ABCDE");
        Due.is("17: seven, the first letters", Due.inn(8, "").party(127, 0), FULL);
        Due.is("17: seven, the last letters", Due.inn(8, "").party(254, 0), FULL);
        Due.is("17: eight", Due.inn(8, "").party(255, 0), FULL);
        Due.is("17: seven, i below -1", Due.inn(8, "").party(127, -2), FULL);
    }

    /** "the order by which WORTHS ... are most together; the first by letters": from the first order to the last. */
    private static void partyByLetters() {
        WarmBeds x = Due.inn(8, "");
        for (int k = 0; k < 6; k++) {
            x.worth(k, k + 2, 99);
        }
        party("the last of all orders alone", x, 63, 594, "FEDCBA");
        x = Due.inn(8, "");
        for (int k = 0; k < 6; k++) {
            x.worth(k, 7 - k, 99);
        }
        party("the first of all orders alone", x, 63, 594, "ABCDEF");
        x = Due.inn(8, "");
        x.worth(5, 7, 1);
        party("F first is best, the others by letters", x, 63, 1, "FABCDE");
        x.worth(0, 2, 1);
        party("F first, A last", x, 63, 2, "FBCDEA");
        x = Due.inn(8, "");
        x.worth(0, 7, 1);
        x.worth(1, 7, 1);
        party("either is best, the first by letters", x, 3, 1, "AB");
        x.worth(1, 7, 2);
        party("the other is better", x, 3, 2, "BA");
    }

    /** "the BEDS that they have then (who waits has none)" */
    private static void partyInTheYard() {
        party("all wait", Due.inn(2, "AB"), 252, 0, "CDEFGH");
        WarmBeds x = Due.inn(2, "");
        x.worth(5, 1, 1);
        party("four of six wait", x, 63, 1, "FABCDE");
        x.worth(5, 0, 2);
        party("the second BED is better", x, 63, 2, "AFBCDE");
        x.worth(4, 1, 1);
        party("both BEDS", x, 63, 3, "EFABCD");
        x = Due.inn(2, "G");
        x.worth(1, 0, 99);
        party("one BED is left", x, 3, 99, "BA");
        x.worth(0, 1, 99);
        party("WORTH of a BED that is taken", x, 3, 99, "BA");
    }

    /** "come behind the DAY": a full PAD is no hindrance. */
    private static void partyByPlaces() {
        party("behind a full PAD", Due.inn(8, Due.times("Aa", 24)), 63, 0, "ABCDEF");
        WarmBeds x = Due.inn(2, Due.times("Aa", 24));
        x.rule(1);
        x.worth(0, 1, 7);
        party("behind a full PAD, by LAW 1", x, 3, 7, "BA");
    }

    private static void partyIsRefused() {
        Due.is("17: bits 0, though there is a FAULT", Due.day("!").party(0, -1), OUTSIDE);
        Due.is("17: a FAULT ahead of more than 6", Due.day("!").party(255, -1), NO);
        Due.is("17: some ? ahead of one who is there", Due.day("A?").party(1, -1), STATE);
        Due.is("17: some ? ahead of more than 6", Due.day("?").party(255, -1), STATE);
        Due.is("17: it can not be", Due.day("b").party(1, -1), NO);
        Due.is("17: it can not be, ahead of more than 6", Due.day("b").party(255, -1), NO);
    }
}
