/**
 * "## Terms", its head and its part 1, sentence by sentence: what holds at each boundary that a sentence names.
 * Parts 2 to 4 stand in EdgesOfNightsTest, EdgesOfComingTest and EdgesOfFleasTest, with the promises that use them.
 */
final class EdgesOfTermsTest {
    private static final int NONE = -6, UNKNOWN = -1, OUTSIDE = -2, STATE = -3, FULL = -4, NO = -5;
    private static final long LOST = -1000000000000000000L;

    public static void main(String[] args) {
        numbersOfRefusals();
        fractions();
        howManyBeds();
        bedsByTheirNumbers();
        bedsAtTheBeginning();
        guestsByTheirNumbers();
        guestsByTheirLetters();
        worths();
        signsOnThePad();
        codesOfSigns();
        lettersOfADay();
        untoldOnes();
        placesOfEvents();
        theFault();
        lawAtFirst();
        lawsWithAllEmpty();
        lawsWithTwoEmpty();
        lawsWithOneEmpty();
        lawsFillAllBeds();
        lawsAmongAllBeds();
        dearestBeds();
        noneIsEmpty();
        whoGoesLeavesTheBed();
        whoGoesLeavesTheYard();
        whoWaitedLongest();
        whoComesIsThere();
        whoGoesIsNot();
        firstThatCanNotBe();
        Due.end();
    }

    /** "UNKNOWN -1, OUTSIDE -2, NO -5, STATE -3, FULL -4"; their order is held by RefusalsTest. */
    private static void numbersOfRefusals() {
        Due.is("head: UNKNOWN", new WarmBeds().reach(4), -1);
        Due.is("head: OUTSIDE", new WarmBeds().rule(4), -2);
        Due.is("head: NO", Due.day("!").reach(0), -5);
        Due.is("head: STATE", Due.day("?").reach(0), -3);
        Due.is("head: FULL", Due.day(Due.times(".", 48)).say('.'), -4);
    }

    /** "Fractions are told in lowest terms by part: 0 the upper, 1 the lower number; refused with LOST ..." */
    private static void fractions() {
        WarmBeds x = Due.inn(2, "");
        Due.is("head: part -1", x.chance(1, 1, 4, -1), LOST + OUTSIDE);
        Due.is("head: part 0, the upper of 4/10", x.chance(1, 1, 4, 0), 2);
        Due.is("head: part 1, the lower of 4/10", x.chance(1, 1, 4, 1), 5);
        Due.is("head: part 2", x.chance(1, 1, 4, 2), LOST + OUTSIDE);
        Due.is("head: upper of none at all", x.chance(0, 8, 0, 0), 0);
        Due.is("head: lower of none at all", x.chance(0, 8, 0, 1), 1);
        Due.is("head: upper of the whole", x.chance(0, 8, 10, 0), 1);
        Due.is("head: lower of the whole", x.chance(0, 8, 10, 1), 1);
        Due.is("head: upper that shares nothing with the lower", x.chance(0, 2, 3, 0), 9);
        Due.is("head: lower of that", x.chance(0, 2, 3, 1), 100);
        Due.is("head: upper of 5/10", x.chance(1, 1, 5, 0), 1);
        Due.is("head: lower of 5/10", x.chance(1, 1, 5, 1), 2);
        Due.is("head: UNKNOWN", x.chance(2, 0, 0, 0), -1000000000000000001L);
        Due.is("head: OUTSIDE", x.chance(0, 9, 0, 0), -1000000000000000002L);
        Due.is("head: STATE", Due.day("?").chance(0, 0, 0, 0), -1000000000000000003L);
        Due.is("head: NO", Due.day("a").chance(0, 0, 0, 1), -1000000000000000005L);
    }

    /** "BEDS ... (n 2 to 8; 4 at first)" */
    private static void howManyBeds() {
        Due.is("1: BEDS at first", new WarmBeds().told(1), 4);
        Due.refused("1: n one below the first", WarmBeds::new, x -> x.beds(1), OUTSIDE);
        Due.is("1: n the first", new WarmBeds().beds(2), 4);
        Due.is("1: n the first, then", Due.inn(2, "").told(1), 2);
        Due.is("1: n the last", new WarmBeds().beds(8), 4);
        Due.is("1: n the last, then", Due.inn(8, "").told(1), 8);
        Due.refused("1: n one above the last", WarmBeds::new, x -> x.beds(9), OUTSIDE);
    }

    /** "BEDS 0 to n less 1", in each call that is told a BED. */
    private static void bedsByTheirNumbers() {
        String[] calls = {"worth 0 # 0", "who # -1", "slept # 0", "when 7 # 0", "reach #", "seen 0 #", "chance # 0 0 0",
            "year 0 1 #"};
        for (String call : calls) {
            String name = call.substring(0, call.indexOf(' '));
            String arguments = call.substring(call.indexOf(' ') + 1);
            long unknown = name.equals("chance") ? LOST + UNKNOWN : UNKNOWN;
            for (int n = 2; n <= 8; n++) {
                WarmBeds x = Due.inn(n, "");
                String what = "1: " + n + " BEDS, " + name + " of BED ";
                Due.is(what + "-1", Call.of(x, name, arguments.replace("#", "-1")), unknown);
                Due.is(what + "0", Call.of(x, name, arguments.replace("#", "0")) == unknown ? 1 : 0, 0);
                Due.is(what + "n less 1", Call.of(x, name, arguments.replace("#", "" + (n - 1))) == unknown ? 1 : 0, 0);
                Due.is(what + "n", Call.of(x, name, arguments.replace("#", "" + n)), unknown);
            }
        }
    }

    /** "all empty at the beginning of a DAY; they were left by numbers then, BED 0 first, the last one last" */
    private static void bedsAtTheBeginning() {
        for (int n = 2; n <= 8; n++) {
            WarmBeds x = Due.inn(n, "ABCDEFGH");
            for (int bed = 0; bed < n; bed++) {
                Due.is("1: " + n + " BEDS, nobody is in BED " + bed, x.who(bed, 0), NONE);
            }
            Due.is("1: " + n + " BEDS, nobody waits", x.left(0, -1), 0);
            Due.is("1: " + n + " BEDS, the last one was left last", x.left(0, 0), n - 1);
            Due.is("1: " + n + " BEDS, BED 0 was left first", x.left(0, n - 1), 0);
            Due.is("1: " + n + " BEDS, there is no other", x.left(0, n), NONE);
            for (int i = 1; i < n; i++) {
                Due.is("1: " + n + " BEDS, left by numbers", x.left(0, i), x.left(0, i - 1) - 1);
            }
        }
    }

    /** "GUESTS 0 to 7", in each call that is told a GUEST. */
    private static void guestsByTheirNumbers() {
        String[] calls = {"worth # 0 0", "bed # -1", "when # 0 0", "best # 0", "fleas # 0", "seen # 0"};
        for (String call : calls) {
            String name = call.substring(0, call.indexOf(' '));
            String arguments = call.substring(call.indexOf(' ') + 1);
            WarmBeds x = Due.day("");
            String what = "1: " + name + " of GUEST ";
            Due.is(what + "-1", Call.of(x, name, arguments.replace("#", "-1")), UNKNOWN);
            Due.is(what + "0 is refused", Call.of(x, name, arguments.replace("#", "0")) == UNKNOWN ? 1 : 0, 0);
            Due.is(what + "7 is refused", Call.of(x, name, arguments.replace("#", "7")) == UNKNOWN ? 1 : 0, 0);
            // Behind the GUESTS fleas goes on with BEDS.
            long past = name.equals("fleas") ? 0 : UNKNOWN;
            Due.is(what + "8", Call.of(x, name, arguments.replace("#", "8")), past);
        }
    }

    /** "GUESTS 0 to 7 (A to H)" */
    private static void guestsByTheirLetters() {
        for (int guest = 0; guest < 8; guest++) {
            char comes = (char) ('A' + guest);
            char goes = (char) ('a' + guest);
            Due.is("1: " + comes + " is GUEST " + guest, Due.day("" + comes).who(3, -1), guest);
            Due.is("1: GUEST " + guest + " comes by " + comes, Due.day("" + comes).bed(guest, -1), 3);
            Due.is("1: GUEST " + guest + " goes by " + goes, Due.day("" + comes + goes).bed(guest, -1), NONE);
        }
    }

    /** "WORTH of a BED to a GUEST (0 to 99; 0 at first)" */
    private static void worths() {
        WarmBeds x = new WarmBeds();
        Due.is("1: WORTH at first", x.worth(7, 3, 99), 0);
        Due.is("1: WORTH 99, the last", x.told(83), 99);
        Due.is("1: WORTH 0, the first", x.worth(7, 3, 0), 99);
        Due.is("1: WORTH 0, then", x.told(83), 0);
        Due.refused("1: WORTH -1", () -> Due.lived("A"), y -> y.worth(7, 3, -1), OUTSIDE);
        Due.refused("1: WORTH 100", () -> Due.lived("A"), y -> y.worth(7, 3, 100), OUTSIDE);
    }

    /** "a text on a PAD (48 SIGNS at most ...)" */
    private static void signsOnThePad() {
        WarmBeds x = new WarmBeds();
        Due.is("1: no SIGN", x.told(0), 0);
        Due.is("1: the first SIGN", x.say('.'), 1);
        Due.write(x, Due.times(".", 47));
        Due.is("1: SIGN 48, the last", x.say('.'), 48);
        Due.refused("1: SIGN 49", () -> Due.lived(Due.times(".", 48)), y -> y.say('.'), FULL);
    }

    /** "codes 33 to 126" */
    private static void codesOfSigns() {
        Due.refused("1: code 32", () -> Due.lived("A"), x -> x.say(32), OUTSIDE);
        Due.is("1: code 33, the first", Due.day("A").say(33), 2);
        Due.is("1: code 126, the last", Due.day("A").say(126), 2);
        Due.refused("1: code 127", () -> Due.lived("A"), x -> x.say(127), OUTSIDE);
    }

    /** "A to H (comes), a to h (goes), ? ..., . (a NIGHT)": at both ends of each. */
    private static void lettersOfADay() {
        Due.is("1: the sign ahead of A", Due.day("@").fault(), 0);
        Due.is("1: A", Due.day("A").fault(), NONE);
        Due.is("1: H", Due.day("H").fault(), NONE);
        Due.is("1: the sign behind H", Due.day("I").fault(), 0);
        Due.is("1: the sign ahead of a", Due.day("`").fault(), 0);
        Due.is("1: a", Due.day("a").fault(), NONE);
        Due.is("1: h", Due.day("h").fault(), NONE);
        Due.is("1: the sign behind h", Due.day("i").fault(), 0);
        Due.is("1: the sign ahead of ?", Due.day(">").fault(), 0);
        Due.is("1: ?", Due.day("?").fault(), NONE);
        Due.is("1: the sign ahead of the NIGHT", Due.day("-").fault(), 0);
        Due.is("1: the NIGHT", Due.day(".").fault(), NONE);
        Due.is("1: the sign behind the NIGHT", Due.day("/").fault(), 0);
    }

    /** "? (one comes who is not told; 3 at most)" */
    private static void untoldOnes() {
        Due.is("1: no ?", Due.day("A").could(0), NONE);
        Due.is("1: one ?", Due.day("?").fault(), NONE);
        Due.is("1: three of ?", Due.day("???").fault(), NONE);
        Due.is("1: three of ?, apart and at both ends", Due.day("?A.?a.?").fault(), NONE);
        Due.is("1: the fourth ?", Due.day("????").fault(), 3);
        Due.is("1: the fourth ?, apart", Due.day("?A?.?a?").fault(), 6);
        Due.is("1: the fourth ? of five", Due.day("?????").fault(), 3);
    }

    /** "EVENTS are its signs, from 0 on." */
    private static void placesOfEvents() {
        Due.is("1: EVENT 0 can not be", Due.day("a").judge(0), 0);
        Due.is("1: EVENT 47 can not be", Due.day(Due.times(".", 47) + "a").judge(0), 47);
        Due.is("1: a NIGHT is an EVENT", Due.day(".a").judge(0), 1);
        Due.is("1: behind one EVENT", Due.day("AB").bed(0, 1), 3);
        Due.is("1: the second EVENT is not among one", Due.day("AB").bed(1, 1), NONE);
    }

    /** "THE FAULT: the place of the first sign that can not stand there." */
    private static void theFault() {
        Due.is("1: no sign", Due.day("").fault(), NONE);
        Due.is("1: no FAULT on a full PAD", Due.day(Due.times("Aa.", 16)).fault(), NONE);
        Due.is("1: THE FAULT in the first place", Due.day("!" + Due.times(".", 47)).fault(), 0);
        Due.is("1: THE FAULT in the last place", Due.day(Due.times(".", 47) + "!").fault(), 47);
        Due.is("1: the first of two", Due.day(".!.!").fault(), 1);
        Due.is("1: a sign ahead of the fourth ?", Due.day("???!?").fault(), 3);
        Due.is("1: a sign behind the fourth ?", Due.day("????!").fault(), 3);
        Due.is("1: the fourth ? in the last place", Due.day(Due.times(".", 44) + "????").fault(), 47);
    }

    private static void guestHas(String what, String day, int law, int bed) {
        WarmBeds x = Due.day(day);
        x.rule(law);
        Due.is(what, x.bed(day.charAt(day.length() - 1) - 'A', -1), bed);
    }

    /** "THE LAW: 0 (at first)" */
    private static void lawAtFirst() {
        Due.is("1: THE LAW at first", new WarmBeds().rule(0), 0);
        Due.is("1: by it the one left last", Due.day("ABbaC").bed(2, -1), 3);
    }

    /** "0 ... left last, 1 ... left first of those that are empty, 2 ... the least number, 3 ...": of all BEDS. */
    private static void lawsWithAllEmpty() {
        guestHas("1: LAW 0, all are empty", "A", 0, 3);
        guestHas("1: LAW 1, all are empty", "A", 1, 0);
        guestHas("1: LAW 2, all are empty", "A", 2, 0);
        guestHas("1: LAW 3, all are empty", "A", 3, 3);
        guestHas("1: LAW 0, all are empty again", "ABCDbdcaE", 0, 3);
        guestHas("1: LAW 1, all are empty again", "ABCDbdcaE", 1, 1);
        guestHas("1: LAW 2, all are empty again", "ABCDbdcaE", 2, 0);
        guestHas("1: LAW 3, all are empty again", "ABCDbdcaE", 3, 3);
    }

    /** By LAWS 0 and 3 A and D have BEDS 3 and 0, by LAWS 1 and 2 BEDS 0 and 3. */
    private static void lawsWithTwoEmpty() {
        guestHas("1: LAW 0, two are empty, the greater left last", "ABCDdaE", 0, 3);
        guestHas("1: LAW 0, two are empty, the lesser left last", "ABCDadE", 0, 0);
        guestHas("1: LAW 1, two are empty, the greater left first", "ABCDdaE", 1, 3);
        guestHas("1: LAW 1, two are empty, the lesser left first", "ABCDadE", 1, 0);
        guestHas("1: LAW 2, two are empty, the greater left first", "ABCDdaE", 2, 0);
        guestHas("1: LAW 2, two are empty, the lesser left first", "ABCDadE", 2, 0);
        guestHas("1: LAW 3, two are empty, the greater left last", "ABCDdaE", 3, 3);
        guestHas("1: LAW 3, two are empty, the lesser left last", "ABCDadE", 3, 0);
    }

    private static void lawsWithOneEmpty() {
        guestHas("1: LAW 0, one is empty", "ABCD", 0, 0);
        guestHas("1: LAW 1, one is empty", "ABCD", 1, 3);
        guestHas("1: LAW 2, one is empty", "ABCD", 2, 3);
        guestHas("1: LAW 3, one is empty", "ABCD", 3, 0);
        guestHas("1: LAW 0, one is left", "ABCDbE", 0, 2);
        guestHas("1: LAW 1, one is left", "ABCDbE", 1, 1);
        guestHas("1: LAW 2, one is left", "ABCDbE", 2, 1);
        guestHas("1: LAW 3, one is left", "ABCDbE", 3, 2);
    }

    /** From the first one who comes to the one who has the last empty BED, and which BEDS are empty meanwhile. */
    private static void lawsFillAllBeds() {
        for (int n = 2; n <= 8; n++) {
            for (int law = 0; law < 4; law++) {
                WarmBeds x = Due.inn(n, "ABCDEFGH".substring(0, n));
                x.rule(law);
                boolean fromTheLast = law == 0 || law == 3;
                for (int k = 0; k < n; k++) {
                    String what = "1: " + n + " BEDS, LAW " + law + ", behind " + k + ", ";
                    Due.is(what + "who comes", x.bed(k, -1), fromTheLast ? n - 1 - k : k);
                    Due.is(what + "left last", x.left(k, 0), fromTheLast ? n - 1 - k : n - 1);
                    Due.is(what + "left first", x.left(k, n - 1 - k), fromTheLast ? 0 : k);
                    Due.is(what + "there is no other", x.left(k, n - k), NONE);
                }
                for (int bed = 0; bed < n; bed++) {
                    Due.is("1: " + n + " BEDS, LAW " + law + ", BED " + bed, x.who(bed, -1),
                        fromTheLast ? n - 1 - bed : bed);
                }
            }
        }
    }

    /** By LAW 2 A to H have BEDS 0 to 7; they leave them by turns, so that A leaves as the first to the eighth. */
    private static void lawsAmongAllBeds() {
        for (int turn = 0; turn < 8; turn++) {
            String leaving = "abcdefgh".substring(8 - turn) + "abcdefgh".substring(0, 8 - turn);
            WarmBeds x = Due.inn(8, "ABCDEFGH" + leaving + "H");
            x.rule(2);
            Due.is("1: the least number was left behind " + turn + " others", x.bed(7, -1), 0);
            Due.is("1: nothing is left out, behind " + turn + " others", x.left(-1, 6), turn == 0 ? 1 : 8 - turn);
            Due.is("1: the last one, behind " + turn + " others", x.left(-1, 0), turn == 7 ? 7 : 7 - turn);
        }
        // By LAW 3 A to G come into BEDS 7 to 1 and leave them by turns; then H has the one that is dear.
        for (int bed = 0; bed < 8; bed++) {
            WarmBeds x = Due.inn(8, "ABCDEFGabcdefgH");
            x.rule(3);
            x.worth(7, bed, 1);
            Due.is("1: BED " + bed + " is dear, where all are empty", x.bed(7, -1), bed);
        }
    }

    /** "3 that of the greatest WORTH to the GUEST, of several the one left last" */
    private static void dearestBeds() {
        WarmBeds x = Due.day("A");
        x.rule(3);
        Due.is("1: no WORTH at all, the one left last", x.bed(0, -1), 3);
        x.worth(0, 0, 1);
        Due.is("1: WORTH 1 of the one left first", x.bed(0, -1), 0);
        x.worth(0, 1, 98);
        x.worth(0, 2, 99);
        x.worth(0, 3, 98);
        Due.is("1: 99 ahead of 98", x.bed(0, -1), 2);
        x.worth(0, 1, 99);
        Due.is("1: of two with 99 the one left last", x.bed(0, -1), 2);
        x.worth(0, 0, 99);
        x.worth(0, 3, 99);
        Due.is("1: of all with 99 the one left last", x.bed(0, -1), 3);
        x.worth(1, 3, 99);
        Due.is("1: WORTHS to another GUEST do not matter", x.bed(0, -1), 3);
        Due.write(x, "BA");
        Due.is("1: the dearest that is empty", x.bed(0, -1), 2);
        Due.write(x, "CDEFcdA");
        Due.is("1: of several the one left last, not the greatest number", x.bed(0, -1), 2);
    }

    /** "if none is empty, the GUEST waits in THE YARD" */
    private static void noneIsEmpty() {
        for (int law = 0; law < 4; law++) {
            WarmBeds x = Due.inn(2, "ABC");
            x.rule(law);
            Due.is("1: LAW " + law + ", who has the last BED does not wait", x.left(2, -1), 0);
            Due.is("1: LAW " + law + ", who comes then has none", x.bed(2, -1), NONE);
            Due.is("1: LAW " + law + ", and waits", x.left(3, -1), 1);
            Due.is("1: LAW " + law + ", no BED is empty", x.left(3, 0), NONE);
        }
        Due.is("1: all that can wait", Due.inn(2, "ABCDEFGH").left(-1, -1), 6);
        Due.is("1: eight BEDS, nobody waits", Due.inn(8, "ABCDEFGH").left(-1, -1), 0);
        Due.is("1: seven BEDS, one waits", Due.inn(7, "ABCDEFGH").left(-1, -1), 1);
    }

    /** "Who goes leaves the BED": nobody waits. */
    private static void whoGoesLeavesTheBed() {
        Due.is("1: nobody waits, the BED is empty", Due.inn(2, "ABa").who(1, -1), NONE);
        Due.is("1: nobody waits, it was left last", Due.inn(2, "ABa").left(-1, 0), 1);
        Due.is("1: all go, all are empty", Due.inn(2, "ABba").left(-1, 1), 0);
        Due.is("1: all go, the last is left last", Due.inn(2, "ABba").left(-1, 0), 1);
        Due.is("1: who went is nowhere", Due.inn(2, "ABa").bed(0, -1), NONE);
    }

    /** "Who goes leaves ... (or THE YARD)": the first, the last, the only one who waits. */
    private static void whoGoesLeavesTheYard() {
        Due.is("1: the only one who waits goes", Due.inn(2, "ABCc").left(-1, -1), 0);
        Due.is("1: no BED is left by that", Due.inn(2, "ABCc").left(-1, 0), NONE);
        Due.is("1: then nobody has what is left", Due.inn(2, "ABCca").who(1, -1), NONE);
        Due.is("1: the first of three goes, the second has it", Due.inn(2, "ABCDEca").who(1, -1), 3);
        Due.is("1: the second of three goes, the first has it", Due.inn(2, "ABCDEda").who(1, -1), 2);
        Due.is("1: then the third is next", Due.inn(2, "ABCDEdab").who(0, -1), 4);
        Due.is("1: the last of three goes, the first has it", Due.inn(2, "ABCDEea").who(1, -1), 2);
        Due.is("1: then the second is next", Due.inn(2, "ABCDEeab").who(0, -1), 3);
        Due.is("1: who comes again waits behind the others", Due.inn(2, "ABCDcCa").who(1, -1), 3);
        Due.is("1: all who wait go", Due.inn(2, "ABCDEFGHhcgdfe").left(-1, -1), 0);
    }

    /** "who has waited longest in THE YARD has it at once" */
    private static void whoWaitedLongest() {
        WarmBeds x = Due.inn(2, "ABCDEFGHa");
        Due.is("1: the longest of six has it", x.who(1, -1), 2);
        Due.is("1: five wait", x.left(-1, -1), 5);
        Due.is("1: it is not empty", x.left(-1, 0), NONE);
        Due.is("1: the only one has it", Due.inn(2, "ABCb").who(0, -1), 2);
        Due.is("1: then nobody waits", Due.inn(2, "ABCb").left(-1, -1), 0);
        Due.is("1: the last of six has what is left sixth", Due.inn(2, "ABCDEFGHabcdef").who(0, -1), 7);
        Due.is("1: who went waits behind the others", Due.inn(2, "ABCaAb").who(0, -1), 0);
        for (int law = 0; law < 4; law++) {
            x = Due.inn(2, "ABCDa");
            x.rule(law);
            x.worth(3, 0, 99);
            x.worth(3, 1, 99);
            Due.is("1: LAW " + law + " does not matter to who waits", x.bed(2, -1), x.bed(0, 4));
        }
    }

    private static void judged(String what, WarmBeds x, int place, int why) {
        Due.is("1: the EVENT, " + what, x.judge(0), place);
        Due.is("1: why, " + what, x.judge(1), why);
    }

    /** "1 who comes is there (in a BED, in THE YARD)" */
    private static void whoComesIsThere() {
        judged("who comes is in a BED", Due.inn(2, "AA"), 1, 1);
        judged("who comes is in the last BED", Due.inn(2, "ABB"), 2, 1);
        judged("who comes waits", Due.inn(2, "ABCC"), 3, 1);
        judged("who comes waits as the last of six", Due.inn(2, "ABCDEFGHH"), 8, 1);
        judged("who comes has waited", Due.inn(2, "ABCaC"), 4, 1);
        judged("who comes went out of a BED", Due.inn(2, "AaA"), NONE, NONE);
        judged("who comes went out of THE YARD", Due.inn(2, "ABCcC"), NONE, NONE);
        judged("who comes was never there", Due.inn(2, "H"), NONE, NONE);
    }

    /** "2 who goes is not" */
    private static void whoGoesIsNot() {
        judged("who goes was never there", Due.inn(2, "a"), 0, 2);
        judged("who goes went out of a BED", Due.inn(2, "Aaa"), 2, 2);
        judged("who goes went out of THE YARD", Due.inn(2, "ABCcc"), 4, 2);
        judged("who goes comes later", Due.inn(2, "hH"), 0, 2);
        judged("who goes is in a BED", Due.inn(2, "Hh"), NONE, NONE);
        judged("who goes waits", Due.inn(2, "ABHh"), NONE, NONE);
        judged("who goes has waited", Due.inn(2, "ABCac"), NONE, NONE);
    }

    /** "JUDGED: the first such EVENT, and why." */
    private static void firstThatCanNotBe() {
        judged("no EVENT", Due.day(""), NONE, NONE);
        judged("a full PAD, all can be", Due.day(Due.times("Hh.", 16)), NONE, NONE);
        judged("in the first place", Due.day("h" + Due.times(".", 47)), 0, 2);
        judged("in the last place", Due.day("H" + Due.times(".", 46) + "H"), 47, 1);
        judged("the first of two, why 1", Due.day("AAb"), 1, 1);
        judged("the first of two, why 2", Due.day("bAA"), 0, 2);
        Due.is("1: a FAULT, all the same", Due.day("aA!").judge(0), NO);
        Due.is("1: some ?, all the same", Due.day("aA?").judge(0), STATE);
    }
}
