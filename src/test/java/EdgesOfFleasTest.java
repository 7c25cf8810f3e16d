/** "## Terms", part 4, and promises 18 to 28: what holds at each boundary that they name. */
final class EdgesOfFleasTest {
    private static final int NONE = -6, UNKNOWN = -1, OUTSIDE = -2, STATE = -3, FULL = -4, NO = -5;
    private static final int MIN = Integer.MIN_VALUE, MAX = Integer.MAX_VALUE;
    private static final long LOST = -1000000000000000000L;

    public static void main(String[] args) {
        fleasWithoutNights();
        fleasInOneNight();
        fleasOfAll();
        whoHasFleas();
        fleasWhat();
        broughtSets();
        broughtByAll();
        seenBounds();
        sixSights();
        forgetCounts();
        filledPlaces();
        filledWithoutUntold();
        filledByThree();
        filledInNoWay();
        sightsHold();
        sightsOfEveryBed();
        couldPlaces();
        couldBeNobody();
        filledAndCouldAreRefused();
        chanceBounds();
        chanceOfNoDraw();
        chanceOfEightDraws();
        nobodyIsThereToGo();
        chanceWithAYard();
        chanceIsRefused();
        yearBounds();
        yearByItsNumbers();
        yearFromAnEmptyInn();
        imageBounds();
        imagesKeepAllButThePad();
        imagesKeepEachSight();
        restoreBounds();
        restoreLeavesThePadAndTheImage();
        toldBounds();
        toldOfAllBeds();
        Due.end();
    }

    private static void fleas(String what, WarmBeds x, int who, int guests, int beds) {
        Due.is("18: GUESTS, " + what, x.fleas(who, 0), guests);
        Due.is("18: BEDS, " + what, x.fleas(who, 1), beds);
    }

    /** "each NIGHT": none by day; "Ahead of the DAY a GUEST has them, or a BED" keeps them. */
    private static void fleasWithoutNights() {
        fleas("no EVENT, a GUEST", Due.inn(2, ""), 0, 1, 0);
        fleas("no EVENT, a BED", Due.inn(2, ""), 8, 0, 1);
        fleas("no NIGHT, a GUEST", Due.inn(2, "AaB"), 0, 1, 0);
        fleas("no NIGHT, a BED", Due.inn(2, "AaB"), 9, 0, 2);
        fleas("a NIGHT ahead of who comes", Due.inn(2, ".A"), 0, 1, 0);
        fleas("a NIGHT behind who goes", Due.inn(2, "Aa."), 0, 1, 0);
        fleas("who never comes", Due.inn(2, "A."), 7, 128, 0);
        fleas("a BED that nobody has", Due.inn(2, "A."), 8, 0, 1);
        fleas("48 NIGHTS, nobody there", Due.inn(2, Due.times(".", 48)), 9, 0, 2);
    }

    /** "(both in one NIGHT, that is all that share a BED have them behind it, if one of both had)" */
    private static void fleasInOneNight() {
        fleas("a GUEST to his BED", Due.inn(2, "A."), 0, 1, 2);
        fleas("a BED to its GUEST", Due.inn(2, "A."), 9, 1, 2);
        fleas("not to another BED", Due.inn(2, "AB."), 0, 1, 2);
        fleas("not to the next one by day", Due.inn(2, "A.aB"), 0, 1, 2);
        fleas("to the next one in the next NIGHT", Due.inn(2, "A.aB."), 0, 3, 2);
        fleas("not back to who went", Due.inn(2, "A.aB."), 1, 2, 2);
        fleas("who waits brings none", Due.inn(2, "ABC."), 2, 4, 0);
        fleas("who waits is given none", Due.inn(2, "ABC."), 9, 1, 2);
        fleas("who waited is given some in the NIGHT behind", Due.inn(2, "ABC.a."), 9, 5, 2);
        fleas("who waited is given none without it", Due.inn(2, "ABC.a"), 9, 1, 2);
        fleas("from a BED by a GUEST to another BED", Due.inn(2, "A.aBA."), 9, 3, 3);
    }

    private static void fleasOfAll() {
        WarmBeds x = Due.inn(2, "A.aB.bC.cD.dE.eF.fG.gH.");
        fleas("one after another, from the first", x, 0, 255, 2);
        fleas("one after another, from the last", x, 7, 128, 2);
        fleas("one after another, from the BED", x, 9, 255, 2);
        fleas("every BED is taken, each its own", Due.inn(8, "ABCDEFGH."), 7, 128, 1);
        fleas("every BED is taken, the last BED", Due.inn(8, "ABCDEFGH."), 15, 1, 128);
    }

    /** 18: "of a GUEST (who = 0 to 7), of a BED (8 and its number)": UNKNOWN below and above. */
    private static void whoHasFleas() {
        for (int n = 2; n <= 8; n++) {
            WarmBeds x = Due.inn(n, "");
            Due.is("18: " + n + " BEDS, -1", x.fleas(-1, 0), UNKNOWN);
            Due.is("18: " + n + " BEDS, 0", x.fleas(0, 0), 1);
            Due.is("18: " + n + " BEDS, 7", x.fleas(7, 0), 128);
            Due.is("18: " + n + " BEDS, 8, no GUEST", x.fleas(8, 0), 0);
            Due.is("18: " + n + " BEDS, 8", x.fleas(8, 1), 1);
            Due.is("18: " + n + " BEDS, the last BED", x.fleas(7 + n, 1), 1 << n - 1);
            Due.is("18: " + n + " BEDS, past it", x.fleas(8 + n, 1), UNKNOWN);
            Due.is("18: " + n + " BEDS, past it, what 2", x.fleas(8 + n, 2), UNKNOWN);
        }
    }

    /** 18: "GUESTS (what = 0), BEDS (1)" */
    private static void fleasWhat() {
        WarmBeds x = Due.inn(2, "B.");
        Due.is("18: what -1", x.fleas(1, -1), OUTSIDE);
        Due.is("18: what 0", x.fleas(9, 0), 2);
        Due.is("18: what 1", x.fleas(1, 1), 2);
        Due.is("18: what 2", x.fleas(1, 2), OUTSIDE);
        Due.is("18: what 2, ahead of a FAULT", Due.day("!").fleas(1, 2), OUTSIDE);
        Due.is("18: a FAULT ahead of some ?", Due.day("?!").fleas(1, 1), NO);
        Due.is("18: some ? ahead of what can not be", Due.day("b?").fleas(1, 1), STATE);
        Due.is("18: it can not be", Due.day("b").fleas(1, 1), NO);
    }

    /** 19: "OUTSIDE: bits 0 to 255; NO, STATE, likewise." */
    private static void broughtSets() {
        WarmBeds x = Due.inn(2, "A.aB.bC.cD.dE.eF.fG.gH.");
        Due.is("19: bits -1", x.brought(-1), OUTSIDE);
        Due.is("19: bits 0, nobody: who has them alone has them still", x.brought(0), 0);
        Due.is("19: bits 1, A alone: H has them then, too", x.brought(1), 0);
        Due.is("19: bits 128, H alone", x.brought(128), 128);
        Due.is("19: bits 192, G and H", x.brought(192), 64);
        Due.is("19: bits 254, all but A", x.brought(254), 2);
        Due.is("19: bits 255, all", x.brought(255), 1);
        Due.is("19: bits 256", x.brought(256), OUTSIDE);
        Due.is("19: bits 256, ahead of a FAULT", Due.day("!").brought(256), OUTSIDE);
        Due.is("19: bits -1, ahead of some ?", Due.day("?").brought(-1), OUTSIDE);
        Due.is("19: a FAULT ahead of some ?", Due.day("?!").brought(0), NO);
        Due.is("19: some ? ahead of what can not be", Due.day("b?").brought(255), STATE);
        Due.is("19: it can not be", Due.day("b").brought(0), NO);
    }

    /** 19: one GUEST, several, none. */
    private static void broughtByAll() {
        WarmBeds x = Due.inn(2, "");
        for (int guest = 0; guest < 8; guest++) {
            Due.is("19: no EVENT, GUEST " + guest, x.brought(1 << guest), 1 << guest);
        }
        Due.is("19: no EVENT, two", x.brought(3), 0);
        Due.is("19: no EVENT, all", x.brought(255), 0);
        Due.is("19: either of two", Due.inn(2, "A.aH.hA.").brought(129), 129);
        Due.is("19: either of two, not one alone", Due.inn(2, "A.aH.hA.").brought(1), 0);
        Due.is("19: BEDS do not matter", Due.inn(2, "A.").brought(1), 1);
        WarmBeds full = Due.inn(2, "A" + Due.times(".", 44) + "aH.");
        Due.is("19: a full PAD, the last NIGHT counts", full.brought(129), 1);
        Due.is("19: a full PAD, H alone", full.brought(128), 128);
        Due.is("19: every BED is taken, one waits", Due.inn(2, "ABC.").brought(4), 4);
    }

    /** 20: "UNKNOWN; FULL." */
    private static void seenBounds() {
        for (int n = 2; n <= 8; n++) {
            WarmBeds x = Due.inn(n, "");
            Due.is("20: GUEST -1", x.seen(-1, 0), UNKNOWN);
            Due.is("20: GUEST 8", x.seen(8, 0), UNKNOWN);
            Due.is("20: BED -1", x.seen(0, -1), UNKNOWN);
            Due.is("20: BED n", x.seen(0, n), UNKNOWN);
            Due.is("20: GUEST 0, BED 0", x.seen(0, 0), 1);
            Due.is("20: GUEST 7, BED n less 1", x.seen(7, n - 1), 2);
        }
    }

    private static WarmBeds withSixSights() {
        WarmBeds x = Due.inn(8, "ABCDEF??");
        for (int guest = 0; guest < 6; guest++) {
            Due.is("20: SIGHT " + guest, x.seen(guest, 7 - guest), guest + 1);
        }
        return x;
    }

    /** "all SIGHTS hold (6 at most ...)" */
    private static void sixSights() {
        WarmBeds x = withSixSights();
        Due.is("20: six are told", x.told(3), 6);
        Due.is("20: six hold", x.filled(-1), 2);
        Due.is("20: six hold, by either of two", x.could(1), 192);
        Due.refused("20: the seventh", EdgesOfFleasTest::withSixSights, y -> y.seen(6, 0), FULL);
        Due.refused("20: GUEST 8 ahead of FULL", EdgesOfFleasTest::withSixSights, y -> y.seen(8, 0), UNKNOWN);
        Due.refused("20: BED -1 ahead of FULL", EdgesOfFleasTest::withSixSights, y -> y.seen(0, -1), UNKNOWN);
        Due.refused("20: BED n ahead of FULL", EdgesOfFleasTest::withSixSights, y -> y.seen(0, 8), UNKNOWN);
        x.forget();
        Due.is("20: there is room again", x.seen(6, 1), 1);
        Due.is("20: that one holds alone", x.filled(-1), 1);
        for (int wrong = 0; wrong < 6; wrong++) {
            x = Due.inn(8, "ABCDEF");
            for (int guest = 0; guest < 6; guest++) {
                x.seen(guest, guest == wrong ? 0 : 7 - guest);
            }
            Due.is("20: only SIGHT " + wrong + " does not hold", x.filled(-1), 0);
        }
    }

    /** 21: "SIGHTS go: how many there were." */
    private static void forgetCounts() {
        Due.is("21: none", new WarmBeds().forget(), 0);
        WarmBeds x = Due.day("?");
        x.seen(1, 0);
        Due.is("21: one", x.forget(), 1);
        Due.is("21: then none", x.forget(), 0);
        Due.is("21: it does not hold any more", x.filled(-1), 8);
        x = withSixSights();
        Due.is("21: six", x.forget(), 6);
        Due.is("21: none is told", x.told(3), 0);
        Due.is("21: the next is the first", x.seen(0, 0), 1);
        x = Due.lived("A?");
        x.forget();
        x.seen(2, 3);
        x.seen(6, 1);
        Due.are("21: nothing else goes", Whole.of(x), Whole.of(Due.lived("A?")));
    }

    /** 22: "how many ways (i = -1), the GUEST of the i-th ? in the first; NONE." */
    private static void filledPlaces() {
        WarmBeds x = Due.day("A?B?C?");
        Due.is("22: i = -2", x.filled(-2), NONE);
        Due.is("22: i = -1", x.filled(-1), 60);
        Due.is("22: i = 0, the first", x.filled(0), 3);
        Due.is("22: i = 1", x.filled(1), 4);
        Due.is("22: i = 2, the last", x.filled(2), 5);
        Due.is("22: i = 3, past the last", x.filled(3), NONE);
        Due.is("22: i the least of all numbers", x.filled(MIN), NONE);
        Due.is("22: i the greatest of all numbers", x.filled(MAX), NONE);
        x = Due.day("?");
        Due.is("22: the only one", x.filled(0), 0);
        Due.is("22: past the only one", x.filled(1), NONE);
    }

    private static void filledWithoutUntold() {
        Due.is("22: no EVENT, one way", Due.day("").filled(-1), 1);
        Due.is("22: no EVENT, i = 0", Due.day("").filled(0), NONE);
        Due.is("22: no ?, one way", Due.day("ABa").filled(-1), 1);
        Due.is("22: no ?, i = 0", Due.day("ABa").filled(0), NONE);
        Due.is("22: no ?, it can not be", Due.day("AA").filled(-1), 0);
        Due.is("22: no ?, i below -1", Due.day("A").filled(-2), NONE);
        WarmBeds x = Due.day("A");
        x.seen(0, 3);
        Due.is("22: no ?, a SIGHT that holds", x.filled(-1), 1);
        x.seen(0, 2);
        Due.is("22: no ?, a SIGHT that does not", x.filled(-1), 0);
    }

    /** "ways to write a GUEST for each ? ...; the first by letters" */
    private static void filledByThree() {
        WarmBeds x = Due.day("???");
        Due.is("22: most ways", x.filled(-1), 336);
        Due.is("22: first of the first way", x.filled(0), 0);
        Due.is("22: second of the first way", x.filled(1), 1);
        Due.is("22: third of the first way", x.filled(2), 2);
        x.seen(7, 3);
        x.seen(6, 2);
        x.seen(5, 1);
        Due.is("22: one way", x.filled(-1), 1);
        Due.is("22: first of the last way by letters", x.filled(0), 7);
        Due.is("22: second of the last way by letters", x.filled(1), 6);
        Due.is("22: third of the last way by letters", x.filled(2), 5);
        x = Due.inn(2, "?" + Due.times(".", 45) + "??");
        Due.is("22: in the first and the last places of a full PAD", x.filled(-1), 336);
        x = Due.day("?a?b?c");
        Due.is("22: each one is told by who goes", x.filled(-1), 1);
        Due.is("22: the last of these", x.filled(2), 2);
        x = Due.day("?h?");
        Due.is("22: who went comes again", x.filled(-1), 8);
        Due.is("22: the first is H in all ways", x.filled(0), 7);
        Due.is("22: the second by letters", x.filled(1), 0);
        Due.is("22: all but one are there", Due.inn(2, "ABCDEFG?").filled(0), 7);
    }

    private static void filledInNoWay() {
        WarmBeds x = Due.day("ABCDEFGH?");
        Due.is("22: all are there, no way", x.filled(-1), 0);
        Due.is("22: all are there, i = 0", x.filled(0), NONE);
        Due.is("23: all are there, nobody", x.could(0), 0);
        x = Due.day("ABCDEFG??");
        Due.is("22: one too many", x.filled(-1), 0);
        Due.is("22: one too many, i = 1", x.filled(1), NONE);
        Due.is("23: one too many, the first", x.could(0), 0);
        Due.is("23: one too many, the second", x.could(1), 0);
        x = Due.day("?AA");
        Due.is("22: it can not be, whoever comes", x.filled(-1), 0);
        Due.is("22: it can not be, i = 0", x.filled(0), NONE);
        Due.is("23: it can not be, nobody", x.could(0), 0);
        x = Due.day("?ab");
        Due.is("22: one comes, two go", x.filled(-1), 0);
        Due.is("23: one comes, two go, nobody", x.could(0), 0);
    }

    /** "(...: behind the DAY a GUEST is in a BED)" */
    private static void sightsHold() {
        WarmBeds x = Due.inn(2, "AB?");
        x.seen(2, 0);
        Due.is("22: who waits is in no BED", x.filled(-1), 0);
        Due.write(x, "AB?b");
        Due.is("22: who has waited is in one", x.filled(-1), 1);
        Due.is("22: that is C", x.filled(0), 2);
        Due.write(x, "ABC?b");
        Due.is("22: who waits ahead of the ? is next, whoever comes", x.filled(-1), 5);
        Due.write(x, "ABD?b");
        Due.is("22: another waits ahead of the ?", x.filled(-1), 0);
        Due.write(x, "?C");
        Due.is("22: whoever comes first", x.filled(-1), 7);
        Due.write(x, "?Cc");
        Due.is("22: behind the DAY, not in it", x.filled(-1), 0);
        x.forget();
        x.seen(2, 1);
        x.seen(2, 1);
        Due.write(x, "?");
        Due.is("22: the same SIGHT twice", x.filled(-1), 1);
        x.seen(2, 0);
        Due.is("22: one GUEST in two BEDS", x.filled(-1), 0);
        x.forget();
        x.seen(2, 1);
        x.seen(3, 1);
        Due.is("22: two GUESTS in one BED", x.filled(-1), 0);
        x = Due.day("?a");
        x.seen(0, 3);
        Due.is("22: who went", x.filled(-1), 0);
    }

    private static void sightsOfEveryBed() {
        for (int n = 2; n <= 8; n++) {
            for (int bed = 0; bed < n; bed++) {
                WarmBeds x = Due.inn(n, "ABCDEFGH");
                x.seen(n - 1 - bed, bed);
                Due.is("22: every BED is taken, a SIGHT of BED " + bed, x.filled(-1), 1);
                x.seen((n - bed) % n, bed);
                Due.is("22: every BED is taken, another is not in BED " + bed, x.filled(-1), 0);
            }
        }
    }

    /** 23: "Who can have been the i-th ?, as bits; NONE: there is no such ?." */
    private static void couldPlaces() {
        WarmBeds x = Due.day("A?B?C?");
        Due.is("23: i below -1", x.could(-2), NONE);
        Due.is("23: i = -1", x.could(-1), NONE);
        Due.is("23: i = 0, the first", x.could(0), 248);
        Due.is("23: i = 1", x.could(1), 248);
        Due.is("23: i = 2, the last", x.could(2), 248);
        Due.is("23: i = 3, past the last", x.could(3), NONE);
        Due.is("23: i the least of all numbers", x.could(MIN), NONE);
        Due.is("23: i the greatest of all numbers", x.could(MAX), NONE);
        Due.is("23: no EVENT", Due.day("").could(0), NONE);
        Due.is("23: no ?", Due.day("AB.").could(0), NONE);
        Due.is("23: all can have been", Due.day("?").could(0), 255);
        Due.is("23: past the only one", Due.day("?").could(1), NONE);
        Due.is("23: in the last place of a full PAD", Due.day(Due.times(".", 46) + "H?").could(0), 127);
        x = Due.day("?A?a?");
        Due.is("23: not A, who comes later", x.could(0), 254);
        Due.is("23: not A, who is there", x.could(1), 254);
        Due.is("23: A, too, who went", x.could(2), 255);
    }

    private static void couldBeNobody() {
        WarmBeds x = Due.day("??");
        x.seen(0, 3);
        x.seen(1, 3);
        Due.is("23: no way, the first", x.could(0), 0);
        Due.is("23: no way, the second", x.could(1), 0);
        Due.is("23: no way, past the last", x.could(2), NONE);
        x.forget();
        x.seen(7, 2);
        Due.is("23: all but H", x.could(0), 127);
        Due.is("23: H alone", x.could(1), 128);
        x.forget();
        Due.is("23: nobody by one SIGHT, all without it", x.could(0), 255);
        x.seen(5, 3);
        Due.is("23: all without a SIGHT, one by it", x.could(0), 32);
        Due.is("23: the second by it", x.could(1), 255 - 32);
    }

    /** 22, 23: "NO: there is a FAULT." and nothing else. */
    private static void filledAndCouldAreRefused() {
        Due.refused("22: the fourth ?", () -> Due.lived("????"), x -> x.filled(-1), NO);
        Due.refused("22: a sign that can not stand there", () -> Due.lived("?!"), x -> x.filled(0), NO);
        Due.is("22: a FAULT, i below -1", Due.day("!").filled(-2), NO);
        Due.is("22: a FAULT, i past the last", Due.day("!").filled(3), NO);
        Due.refused("23: the fourth ?", () -> Due.lived("????"), x -> x.could(0), NO);
        Due.refused("23: a sign that can not stand there", () -> Due.lived("?!"), x -> x.could(0), NO);
        Due.is("23: a FAULT, i = -1", Due.day("!").could(-1), NO);
        Due.is("23: a FAULT, no such ?", Due.day("!").could(3), NO);
    }

    private static void chance(String what, WarmBeds x, int bed, int m, int t, long upper, long lower) {
        Due.is("24: upper, " + what, x.chance(bed, m, t, 0), upper);
        Due.is("24: lower, " + what, x.chance(bed, m, t, 1), lower);
    }

    /** "m times (0 to 8) with t tenths (0 to 10)" */
    private static void chanceBounds() {
        WarmBeds x = Due.day("A");
        Due.is("24: m -1", x.chance(3, -1, 5, 0), LOST + OUTSIDE);
        chance("m 0, the first", x, 3, 0, 5, 1, 1);
        chance("m 1", x, 3, 1, 5, 1, 2);
        chance("m 8, the last", x, 3, 8, 2, 99809, 390625);
        Due.is("24: m 9", x.chance(3, 9, 5, 0), LOST + OUTSIDE);
        Due.is("24: t -1", x.chance(3, 1, -1, 0), LOST + OUTSIDE);
        chance("t 0, the first", x, 3, 1, 0, 0, 1);
        chance("t 1", x, 3, 1, 1, 1, 10);
        chance("t 9", x, 3, 1, 9, 9, 10);
        chance("t 10, the last", x, 3, 1, 10, 1, 1);
        Due.is("24: t 11", x.chance(3, 1, 11, 0), LOST + OUTSIDE);
        Due.is("24: BED -1", x.chance(-1, 1, 5, 0), LOST + UNKNOWN);
        chance("BED 0", x, 0, 1, 5, 0, 1);
        Due.is("24: BED n", x.chance(4, 1, 5, 0), LOST + UNKNOWN);
    }

    private static void chanceOfNoDraw() {
        for (int t = 0; t <= 10; t++) {
            chance("m 0, a BED that is taken", Due.day("A"), 3, 0, t, 1, 1);
            chance("m 0, an empty BED", Due.day("A"), 2, 0, t, 0, 1);
        }
        chance("m 0, no EVENT", Due.inn(2, ""), 1, 0, 10, 0, 1);
        chance("m 0, every BED is taken", Due.inn(2, "AB"), 0, 0, 0, 1, 1);
        chance("m 0, behind a full PAD", Due.inn(2, "A" + Due.times(".", 47)), 1, 0, 0, 1, 1);
        chance("m 1, behind a full PAD", Due.inn(2, "A" + Due.times(".", 47)), 0, 1, 10, 1, 1);
    }

    private static void chanceOfEightDraws() {
        WarmBeds x = Due.inn(8, "");
        chance("eight come, the BED left first", x, 0, 8, 10, 1, 1);
        chance("seven come, the BED left first", x, 0, 7, 10, 0, 1);
        chance("seven come, the next", x, 1, 7, 10, 1, 1);
        chance("eight come by one tenth each", x, 0, 8, 1, 1, 100000000);
        chance("eight come by nine tenths each", x, 0, 8, 9, 43046721, 100000000);
        x = Due.inn(8, "ABCDEFGH");
        chance("eight go, the BED of the greatest number", x, 7, 8, 0, 0, 1);
        chance("seven go, the BED of the greatest number", x, 7, 7, 0, 1, 1);
        chance("seven go, the next", x, 6, 7, 0, 0, 1);
        chance("one goes, BED 0", x, 0, 1, 0, 0, 1);
        chance("one goes, BED 1", x, 1, 1, 0, 1, 1);
    }

    /** "(nobody, if all are empty)" */
    private static void nobodyIsThereToGo() {
        WarmBeds x = Due.inn(2, "");
        chance("all are empty, BED 0", x, 0, 1, 0, 0, 1);
        chance("all are empty, BED 1", x, 1, 8, 0, 0, 1);
        chance("all are empty, then one comes or not", x, 1, 1, 3, 3, 10);
        // One comes last, or one comes and the other time nobody is there to go.
        chance("all are empty, twice", x, 1, 2, 3, 3, 10);
        x = Due.inn(2, "A");
        chance("one goes, then nobody", x, 1, 2, 0, 0, 1);
        chance("one goes, then nobody, the order in which BEDS were left stays", x, 1, 3, 1, 109, 1000);
    }

    /** "who is in the BED ... goes": who has waited longest has it at once. */
    private static void chanceWithAYard() {
        WarmBeds x = Due.inn(2, "ABCDEFGH");
        chance("six go, six have waited", x, 0, 6, 0, 1, 1);
        chance("seven go, six have waited", x, 0, 7, 0, 0, 1);
        chance("seven go, the other BED", x, 1, 7, 0, 1, 1);
        chance("eight go, the other BED", x, 1, 8, 0, 0, 1);
        chance("eight come and wait with six", x, 0, 8, 10, 1, 1);
        x = Due.inn(2, "AB");
        // Of the four ways BED 0 is empty behind one: two go.
        chance("twice, strangers wait or do not", x, 0, 2, 5, 3, 4);
        chance("three times, strangers wait or do not", x, 0, 3, 5, 1, 2);
        chance("three times, the other BED", x, 1, 3, 5, 7, 8);
        // Two strangers wait in the first of the sixteen ways: who has a BED then is but one of them.
        chance("four times, another stranger each time", x, 0, 4, 5, 11, 16);
        chance("four times, the other BED", x, 1, 4, 5, 3, 4);
    }

    private static void chanceIsRefused() {
        Due.is("24: UNKNOWN ahead of OUTSIDE", Due.day("!").chance(4, 9, 11, 2), LOST + UNKNOWN);
        Due.is("24: OUTSIDE ahead of a FAULT", Due.day("!").chance(0, 9, 0, 0), LOST + OUTSIDE);
        Due.is("24: a FAULT ahead of some ?", Due.day("?!").chance(0, 0, 0, 0), LOST + NO);
        Due.is("24: some ? ahead of what can not be", Due.day("b?").chance(0, 0, 0, 0), LOST + STATE);
        Due.is("24: it can not be", Due.day("b").chance(0, 0, 0, 0), LOST + NO);
    }

    /** "a seed (0 to 9999) ..., of m EVENTS (1 to 99)" */
    private static void yearBounds() {
        WarmBeds x = Due.day("");
        Due.is("25: seed -1", x.year(-1, 1, 3), OUTSIDE);
        Due.is("25: seed 0, the first", x.year(0, 1, 3), 1);
        Due.is("25: seed 9999, the last", x.year(9999, 1, 3), 1);
        Due.is("25: seed 10000", x.year(10000, 1, 3), OUTSIDE);
        Due.is("25: m 0", x.year(0, 0, 3), OUTSIDE);
        Due.is("25: m 1, the first", x.year(0, 1, 2), 0);
        Due.is("25: m 2", x.year(0, 2, 2), 1);
        Due.is("25: m 99, the last", x.year(77, 99, 3), 9);
        Due.is("25: m 100", x.year(77, 100, 3), OUTSIDE);
        Due.is("25: BED -1", x.year(0, 1, -1), UNKNOWN);
        Due.is("25: BED 0", x.year(0, 1, 0), 0);
        Due.is("25: BED n", x.year(0, 1, 4), UNKNOWN);
        Due.is("25: UNKNOWN ahead of OUTSIDE", x.year(-1, 0, 4), UNKNOWN);
    }

    /** The GUEST to whom BED 0 is dear has it: so it is seen who comes first. */
    private static void firstOfTheYear(int seed, int guest) {
        for (int dear = 0; dear < 8; dear++) {
            WarmBeds x = Due.inn(2, "");
            x.rule(3);
            x.worth(dear, 0, 1);
            Due.is("25: seed " + seed + ", is it GUEST " + dear, x.year(seed, 1, 0), dear == guest ? 1 : 0);
        }
    }

    /** "x becomes (75 x and 74) left over by 65537; GUEST x left over by 8": the numbers by hand. */
    private static void yearByItsNumbers() {
        firstOfTheYear(0, 74 % 8);
        firstOfTheYear(872, 65474 % 8);
        // 75 times 873 and 74 is 65549, the first that is past 65537.
        firstOfTheYear(873, 12 % 8);
        // 75 times 9999 and 74 is 749999; 11 times 65537 is 720907.
        firstOfTheYear(9999, 29092 % 8);
        // 74, 5624, 28652, 51790: C, A, E, G come.
        WarmBeds x = Due.inn(8, "");
        Due.is("25: the fourth of a year", x.year(0, 4, 4), 1);
        Due.is("25: there is no fifth of four", x.year(0, 4, 3), 0);
        Due.is("25: the third of a year of three", x.year(0, 3, 5), 1);
        for (int bed = 0; bed < 8; bed++) {
            Due.is("25: of four who come, BED " + bed, x.year(0, 4, bed), bed >= 4 ? 1 : 0);
        }
    }

    /** "from an empty inn": whatever is on the PAD, and whatever was asked ahead. */
    private static void yearFromAnEmptyInn() {
        Due.is("25: behind a DAY", Due.inn(2, "AB").year(0, 1, 1), 1);
        Due.is("25: behind a full PAD", Due.inn(2, Due.times(".", 48)).year(0, 1, 1), 1);
        Due.is("25: though there is a FAULT", Due.inn(2, "!").year(0, 1, 1), 1);
        Due.is("25: though there is some ?", Due.inn(2, "?").year(0, 1, 1), 1);
        Due.is("25: though it can not be", Due.inn(2, "AA").year(0, 1, 1), 1);
        WarmBeds x = Due.inn(2, "AB");
        Due.is("25: asked", x.year(77, 99, 0), x.year(77, 99, 0));
        Due.is("25: the DAY stays", x.who(0, -1), 1);
    }

    /** 26: "in an IMAGE (0, 1): 1. OUTSIDE." */
    private static void imageBounds() {
        Due.refused("26: IMAGE -1", () -> Due.lived("A"), x -> x.image(-1), OUTSIDE);
        Due.is("26: IMAGE 0, the first", new WarmBeds().image(0), 1);
        Due.is("26: IMAGE 1, the last", new WarmBeds().image(1), 1);
        Due.refused("26: IMAGE 2", () -> Due.lived("A"), x -> x.image(2), OUTSIDE);
        WarmBeds x = new WarmBeds();
        x.rule(1);
        Due.is("26: kept once", x.image(0), 1);
        x.rule(2);
        Due.is("26: kept twice", x.image(0), 1);
        x.rule(3);
        x.restore(0);
        Due.is("26: the later one is kept", x.told(2), 2);
        Due.is("26: none in the other", x.restore(1), STATE);
    }

    /** 26: "All but the PAD is kept": at its least and at its most. */
    private static void imagesKeepAllButThePad() {
        WarmBeds x = new WarmBeds();
        x.image(0);
        x.beds(8);
        x.rule(3);
        for (int k = 0; k < 6; k++) {
            x.seen(7, 7);
        }
        for (int guest = 0; guest < 8; guest++) {
            for (int bed = 0; bed < 8; bed++) {
                x.worth(guest, bed, 11 * guest + bed);
            }
        }
        x.image(1);
        x.beds(2);
        x.rule(1);
        x.restore(1);
        Due.is("26: eight BEDS", x.told(1), 8);
        Due.is("26: THE LAW 3", x.told(2), 3);
        Due.is("26: six SIGHTS", x.told(3), 6);
        for (int guest = 0; guest < 8; guest++) {
            for (int bed = 0; bed < 8; bed++) {
                Due.is("26: WORTH of " + bed + " to " + guest, x.told(10 + 10 * guest + bed), 11 * guest + bed);
            }
        }
        Due.write(x, "H");
        Due.is("26: six SIGHTS hold", x.filled(-1), 1);
        x.restore(0);
        Due.is("26: four BEDS", x.told(1), 4);
        Due.is("26: THE LAW 0", x.told(2), 0);
        Due.is("26: no SIGHT", x.told(3), 0);
        x.beds(8);
        Due.is("26: no SIGHT that does not hold", x.filled(-1), 1);
        x.restore(0);
        for (int guest = 0; guest < 8; guest++) {
            for (int bed = 0; bed < 4; bed++) {
                Due.is("26: no WORTH of " + bed + " to " + guest, x.told(10 + 10 * guest + bed), 0);
            }
        }
    }

    /** Six SIGHTS that hold, of six GUESTS in six BEDS; one of them may be told of another GUEST, or of another BED. */
    private static void tellSights(WarmBeds x, int otherGuest, int otherBed) {
        x.forget();
        for (int k = 0; k < 6; k++) {
            x.seen(k == otherGuest ? 7 : k, k == otherBed ? 0 : 7 - k);
        }
    }

    private static void imageKeepsSights(String what, int n, int otherGuest, int otherBed) {
        WarmBeds x = Due.inn(8, "ABCDEF");
        tellSights(x, NONE, NONE);
        x.image(n);
        tellSights(x, otherGuest, otherBed);
        x.image(1 - n);
        tellSights(x, NONE, NONE);
        x.restore(1 - n);
        Due.is("27: " + what + " did not hold in IMAGE " + (1 - n), x.filled(-1), 0);
        x.restore(n);
        Due.is("27: " + what + " held in IMAGE " + n, x.filled(-1), 1);
    }

    /** 26: "All but the PAD is kept": from the first SIGHT to the last, in either IMAGE. */
    private static void imagesKeepEachSight() {
        for (int k = 0; k < 6; k++) {
            imageKeepsSights("SIGHT " + k + ", of another GUEST,", 0, k, NONE);
            imageKeepsSights("SIGHT " + k + ", of another GUEST,", 1, k, NONE);
            imageKeepsSights("SIGHT " + k + ", of another BED,", 0, NONE, k);
            imageKeepsSights("SIGHT " + k + ", of another BED,", 1, NONE, k);
        }
    }

    /** 27: "OUTSIDE; STATE: it was not." */
    private static void restoreBounds() {
        Due.refused("27: IMAGE -1", () -> Due.lived("A"), x -> x.restore(-1), OUTSIDE);
        Due.is("27: IMAGE 0, the first", Due.lived("A").restore(0), 1);
        Due.is("27: IMAGE 1, the last", Due.lived("A").restore(1), 1);
        Due.refused("27: IMAGE 2", () -> Due.lived("A"), x -> x.restore(2), OUTSIDE);
        Due.refused("27: IMAGE 0 was not kept", () -> Due.inn(3, "A"), x -> x.restore(0), STATE);
        Due.refused("27: IMAGE 1 was not kept", () -> Due.inn(3, "A"), x -> x.restore(1), STATE);
        Due.refused("27: IMAGE 2, none was kept", () -> Due.inn(3, "A"), x -> x.restore(2), OUTSIDE);
        WarmBeds x = Due.inn(3, "A");
        x.image(1);
        Due.is("27: only IMAGE 1 was kept, 0", x.restore(0), STATE);
        Due.is("27: only IMAGE 1 was kept, 1", x.restore(1), 1);
        x = Due.inn(3, "A");
        x.image(0);
        Due.is("27: only IMAGE 0 was kept, 1", x.restore(1), STATE);
        Due.is("27: only IMAGE 0 was kept, 0", x.restore(0), 1);
    }

    /** 27: "It is as it was when it was kept": but for the PAD; what comes later is not in the IMAGE. */
    private static void restoreLeavesThePadAndTheImage() {
        WarmBeds x = Due.lived("A?.");
        x.image(0);
        x.image(1);
        x.worth(6, 1, 99);
        x.rule(2);
        x.forget();
        x.seen(0, 0);
        Due.is("27: once", x.restore(0), 1);
        x.worth(6, 1, 98);
        x.rule(0);
        x.forget();
        x.beds(2);
        Due.is("27: twice", x.restore(0), 1);
        WarmBeds y = Due.lived("A?.");
        y.image(0);
        y.image(1);
        Due.are("27: as it was", Whole.of(x), Whole.of(y));
        x = Due.lived("");
        Due.write(x, Due.times("Aa.", 16));
        x.restore(0);
        Due.is("27: a full PAD stays", x.told(0), 48);
        Due.is("27: what stands on it stays", x.slept(2, 1) + x.slept(1, 1) + x.slept(0, 1), 16);
        x.wipe();
        x.restore(1);
        Due.is("27: an empty PAD stays", x.told(0), 0);
    }

    /** 28: "0 signs, 1 BEDS, 2 THE LAW, 3 SIGHTS, 10 and 10 times a GUEST and a BED ... (10 to 87). OUTSIDE" */
    private static void toldBounds() {
        WarmBeds x = Due.inn(8, Due.times(".", 48));
        x.rule(3);
        for (int k = 0; k < 6; k++) {
            x.seen(0, 0);
        }
        x.worth(0, 0, 98);
        x.worth(7, 7, 99);
        Due.is("28: -1", x.told(-1), OUTSIDE);
        Due.is("28: 0, most signs", x.told(0), 48);
        Due.is("28: 1, most BEDS", x.told(1), 8);
        Due.is("28: 2, the last LAW", x.told(2), 3);
        Due.is("28: 3, most SIGHTS", x.told(3), 6);
        Due.is("28: 4", x.told(4), OUTSIDE);
        Due.is("28: 9", x.told(9), OUTSIDE);
        Due.is("28: 10, the first WORTH", x.told(10), 98);
        Due.is("28: 87, the last WORTH", x.told(87), 99);
        Due.is("28: 88", x.told(88), OUTSIDE);
        Due.is("28: 90, of GUEST 8", x.told(90), OUTSIDE);
        Due.is("28: the least of all numbers", x.told(MIN), OUTSIDE);
        Due.is("28: the greatest of all numbers", x.told(MAX), OUTSIDE);
        x = Due.inn(2, "");
        Due.is("28: 0, no sign", x.told(0), 0);
        Due.is("28: 1, fewest BEDS", x.told(1), 2);
        Due.is("28: 2, the first LAW", x.told(2), 0);
        Due.is("28: 3, no SIGHT", x.told(3), 0);
    }

    /** 28: "OUTSIDE (also of BEDS that there are not)" */
    private static void toldOfAllBeds() {
        for (int n = 2; n <= 8; n++) {
            WarmBeds x = Due.inn(n, "");
            for (int guest = 0; guest < 8; guest++) {
                x.worth(guest, 0, 10 * guest);
                x.worth(guest, n - 1, 10 * guest + n);
            }
            for (int guest = 0; guest < 8; guest++) {
                String what = "28: " + n + " BEDS, GUEST " + guest + ", BED ";
                Due.is(what + "0", x.told(10 + 10 * guest), 10 * guest);
                Due.is(what + "n less 1", x.told(10 + 10 * guest + n - 1), 10 * guest + n);
                for (int past = n; past < 10; past++) {
                    Due.is(what + past, x.told(10 + 10 * guest + past), OUTSIDE);
                }
            }
        }
    }
}
