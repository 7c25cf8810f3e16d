/** "## Terms", part 2, and promises 9 to 13: what holds at each boundary that they name. */
final class EdgesOfNightsTest {
    private static final int NONE = -6, UNKNOWN = -1, OUTSIDE = -2, STATE = -3, NO = -5;

    public static void main(String[] args) {
        behindSoManyEvents();
        eventsOfAnEmptyPad();
        eventsOfAFullPad();
        eventsThatCanNotBe();
        untoldAmongThese();
        faultAnywhere();
        bedOfAGuest();
        whoIsInABed();
        howManyWait();
        emptyBeds();
        sleptNights();
        usedTimes();
        sheetsChanged();
        sleptWhat();
        fewestSheets();
        fewestOfSeveral();
        fewestWhat();
        Due.end();
    }

    /** "Behind so many EVENTS of a DAY": of B C A c b, that put B into BED 3, C into 2, A into 1. */
    private static void behindSoManyEvents() {
        WarmBeds x = Due.day("BCAcb");
        Due.is("9: EVENTS -2", x.bed(0, -2), OUTSIDE);
        Due.is("9: EVENTS -1, all", x.bed(1, -1), NONE);
        Due.is("9: EVENTS 0, none", x.bed(1, 0), NONE);
        Due.is("9: EVENTS 1", x.bed(1, 1), 3);
        Due.is("9: all EVENTS but one", x.bed(1, 4), 3);
        Due.is("9: as many EVENTS as there are", x.bed(1, 5), NONE);
        Due.is("9: one EVENT more", x.bed(1, 6), OUTSIDE);
        Due.is("10: EVENTS -2", x.who(3, -2), OUTSIDE);
        Due.is("10: EVENTS -1, all", x.who(3, -1), NONE);
        Due.is("10: EVENTS 0, none", x.who(3, 0), NONE);
        Due.is("10: EVENTS 1", x.who(3, 1), 1);
        Due.is("10: all EVENTS but one", x.who(3, 4), 1);
        Due.is("10: as many EVENTS as there are", x.who(3, 5), NONE);
        Due.is("10: one EVENT more", x.who(3, 6), OUTSIDE);
        Due.is("11: EVENTS -2", x.left(-2, 0), OUTSIDE);
        Due.is("11: EVENTS -1, all", x.left(-1, 0), 3);
        Due.is("11: EVENTS 0, none", x.left(0, 0), 3);
        Due.is("11: EVENTS 1", x.left(1, 0), 2);
        Due.is("11: all EVENTS but one", x.left(4, 0), 2);
        Due.is("11: as many EVENTS as there are", x.left(5, 0), 3);
        Due.is("11: one EVENT more", x.left(6, 0), OUTSIDE);
    }

    private static void eventsOfAnEmptyPad() {
        WarmBeds x = Due.day("");
        Due.is("9: no EVENT, -1", x.bed(0, -1), NONE);
        Due.is("9: no EVENT, 0", x.bed(0, 0), NONE);
        Due.is("9: no EVENT, 1", x.bed(0, 1), OUTSIDE);
        Due.is("10: no EVENT, -1", x.who(0, -1), NONE);
        Due.is("10: no EVENT, 0", x.who(0, 0), NONE);
        Due.is("10: no EVENT, 1", x.who(0, 1), OUTSIDE);
        Due.is("11: no EVENT, -1", x.left(-1, 0), 3);
        Due.is("11: no EVENT, 0", x.left(0, 0), 3);
        Due.is("11: no EVENT, 1", x.left(1, 0), OUTSIDE);
    }

    private static void eventsOfAFullPad() {
        WarmBeds x = Due.day(Due.times(".", 46) + "AB");
        Due.is("9: 48 EVENTS", x.bed(1, 48), 2);
        Due.is("9: 47 of 48", x.bed(1, 47), NONE);
        Due.is("9: 49 of 48", x.bed(1, 49), OUTSIDE);
        Due.is("10: 48 EVENTS", x.who(2, 48), 1);
        Due.is("10: 47 of 48", x.who(2, 47), NONE);
        Due.is("10: 49 of 48", x.who(2, 49), OUTSIDE);
        Due.is("11: 48 EVENTS", x.left(48, 0), 1);
        Due.is("11: 47 of 48", x.left(47, 0), 2);
        Due.is("11: 49 of 48", x.left(49, 0), OUTSIDE);
    }

    /** "NO: ... one of these EVENTS can not be": the second A, in place 2. */
    private static void eventsThatCanNotBe() {
        WarmBeds x = Due.day("ABA.");
        Due.is("9: ahead of what can not be", x.bed(0, 2), 3);
        Due.is("9: up to what can not be", x.bed(0, 3), NO);
        Due.is("9: past what can not be", x.bed(0, 4), NO);
        Due.is("9: all", x.bed(0, -1), NO);
        Due.is("10: ahead of what can not be", x.who(3, 2), 0);
        Due.is("10: up to what can not be", x.who(3, 3), NO);
        Due.is("10: past what can not be", x.who(3, 4), NO);
        Due.is("10: all", x.who(3, -1), NO);
        Due.is("11: ahead of what can not be", x.left(2, 0), 1);
        Due.is("11: up to what can not be", x.left(3, 0), NO);
        Due.is("11: past what can not be", x.left(4, -1), NO);
        Due.is("11: all", x.left(-1, -2), NO);
        Due.is("12: who comes is there", x.slept(0, 0), NO);
        Due.is("12: who goes is not", Due.day("a").slept(0, 0), NO);
    }

    /** "STATE: there is some ? among them. (NO of a FAULT, STATE, then NO.)": the ? in place 1, NO in 2. */
    private static void untoldAmongThese() {
        WarmBeds x = Due.day("A?A");
        Due.is("9: ahead of the ?", x.bed(0, 1), 3);
        Due.is("9: up to the ?", x.bed(0, 2), STATE);
        Due.is("9: STATE ahead of NO", x.bed(0, 3), STATE);
        Due.is("9: all", x.bed(0, -1), STATE);
        Due.is("10: ahead of the ?", x.who(3, 1), 0);
        Due.is("10: up to the ?", x.who(3, 2), STATE);
        Due.is("10: STATE ahead of NO", x.who(3, 3), STATE);
        Due.is("10: all", x.who(3, -1), STATE);
        Due.is("11: ahead of the ?", x.left(1, 0), 2);
        Due.is("11: up to the ?", x.left(2, 0), STATE);
        Due.is("11: STATE ahead of NO", x.left(3, -1), STATE);
        Due.is("11: all", x.left(-1, -2), STATE);
        x = Due.day("AA?");
        Due.is("9: NO ahead of the ?", x.bed(0, 2), NO);
        Due.is("9: STATE, though NO stands first", x.bed(0, 3), STATE);
        Due.is("10: NO ahead of the ?", x.who(3, 2), NO);
        Due.is("10: STATE, though NO stands first", x.who(3, 3), STATE);
        Due.is("11: NO ahead of the ?", x.left(2, 0), NO);
        Due.is("11: STATE, though NO stands first", x.left(3, 0), STATE);
        Due.is("12: STATE ahead of NO", x.slept(0, 0), STATE);
        Due.is("13: STATE ahead of NO", x.fewest(0), STATE);
        x = Due.day("?");
        Due.is("9: the ? in the first place", x.bed(0, 1), STATE);
        Due.is("9: ahead of the first place", x.bed(0, 0), NONE);
    }

    /** "NO: there is a FAULT": anywhere, also behind these EVENTS. */
    private static void faultAnywhere() {
        WarmBeds x = Due.day("AB!");
        Due.is("9: a FAULT behind no EVENT", x.bed(0, 0), NO);
        Due.is("10: a FAULT behind no EVENT", x.who(0, 0), NO);
        Due.is("11: a FAULT behind no EVENT", x.left(0, -1), NO);
        Due.is("9: a FAULT among these", x.bed(0, 3), NO);
        Due.is("10: a FAULT among these", x.who(0, 3), NO);
        Due.is("11: a FAULT among these", x.left(3, -1), NO);
        x = Due.day("?AA!");
        Due.is("9: a FAULT ahead of STATE", x.bed(0, 1), NO);
        Due.is("10: a FAULT ahead of STATE", x.who(0, -1), NO);
        Due.is("11: a FAULT ahead of STATE", x.left(4, 0), NO);
        Due.is("12: a FAULT ahead of STATE", x.slept(0, 0), NO);
        Due.is("13: a FAULT ahead of STATE", x.fewest(0), NO);
        Due.is("9: a FAULT in a place that is no EVENT of these", x.bed(0, 5), OUTSIDE);
        Due.is("9: the fourth ?", Due.day("????").bed(0, 0), NO);
    }

    /** 9: "the BED of a GUEST; NONE: none, in THE YARD, too. UNKNOWN" */
    private static void bedOfAGuest() {
        WarmBeds x = Due.inn(2, "AHCh");
        Due.is("9: GUEST -1", x.bed(-1, -1), UNKNOWN);
        Due.is("9: GUEST 0, the last BED", x.bed(0, -1), 1);
        Due.is("9: GUEST 7, BED 0", x.bed(7, 3), 0);
        Due.is("9: GUEST 8", x.bed(8, -1), UNKNOWN);
        Due.is("9: in THE YARD", x.bed(2, 3), NONE);
        Due.is("9: out of THE YARD", x.bed(2, 4), 0);
        Due.is("9: never there", x.bed(1, -1), NONE);
        Due.is("9: gone", x.bed(7, -1), NONE);
        Due.is("9: BED 7 of eight", Due.inn(8, "A").bed(0, -1), 7);
        Due.is("9: BED 0 of eight", Due.inn(8, "ABCDEFGH").bed(7, -1), 0);
    }

    /** 10: "who is in a BED; NONE. UNKNOWN" */
    private static void whoIsInABed() {
        WarmBeds x = Due.inn(2, "HACh");
        Due.is("10: BED -1", x.who(-1, -1), UNKNOWN);
        Due.is("10: BED 0", x.who(0, -1), 0);
        Due.is("10: the last BED", x.who(1, 3), 7);
        Due.is("10: BED n", x.who(2, -1), UNKNOWN);
        Due.is("10: empty, nobody yet", x.who(0, 1), NONE);
        Due.is("10: at once another", x.who(1, 4), 2);
        Due.is("10: empty, nobody any more", Due.inn(2, "Hh").who(1, -1), NONE);
        x = Due.inn(8, "ABCDEFGH");
        for (int bed = 0; bed < 8; bed++) {
            Due.is("10: every BED is taken, BED " + bed, x.who(bed, -1), 7 - bed);
        }
    }

    /** 11: "how many wait (i = -1)" */
    private static void howManyWait() {
        Due.is("11: nobody waits, nobody is there", Due.inn(2, "").left(-1, -1), 0);
        Due.is("11: nobody waits, every BED is taken", Due.inn(2, "AB").left(-1, -1), 0);
        Due.is("11: one waits", Due.inn(2, "ABC").left(-1, -1), 1);
        Due.is("11: six wait", Due.inn(2, "ABCDEFGH").left(-1, -1), 6);
        Due.is("11: i below -1 is none of them", Due.inn(2, "ABCDEFGH").left(-1, -2), NONE);
    }

    /** 11: "the i-th of the empty BEDS, the one left last first; NONE (i below -1, too)" */
    private static void emptyBeds() {
        WarmBeds x = Due.inn(3, "ABa");
        Due.is("11: i = -2", x.left(-1, -2), NONE);
        Due.is("11: i = 0, left last", x.left(-1, 0), 2);
        Due.is("11: i the last, left first", x.left(-1, 1), 0);
        Due.is("11: i past the last", x.left(-1, 2), NONE);
        Due.is("11: i the least of all numbers", x.left(-1, Integer.MIN_VALUE), NONE);
        Due.is("11: i the greatest of all numbers", x.left(-1, Integer.MAX_VALUE), NONE);
        x = Due.inn(3, "ABC");
        Due.is("11: no empty BED, i = 0", x.left(-1, 0), NONE);
        Due.is("11: no empty BED, i = -1", x.left(-1, -1), 0);
        Due.is("11: no empty BED, i = -2", x.left(-1, -2), NONE);
        x = Due.inn(8, "");
        Due.is("11: eight are empty, the first of them", x.left(-1, 0), 7);
        Due.is("11: eight are empty, the last of them", x.left(-1, 7), 0);
        Due.is("11: eight are empty, past the last", x.left(-1, 8), NONE);
    }

    /** "SLEPT: how many NIGHTS somebody was in a BED." */
    private static void sleptNights() {
        Due.is("12: no EVENT", Due.inn(2, "").slept(1, 0), 0);
        Due.is("12: no NIGHT", Due.inn(2, "ABab").slept(1, 0), 0);
        Due.is("12: a NIGHT ahead of who comes", Due.inn(2, ".A").slept(1, 0), 0);
        Due.is("12: a NIGHT behind who comes", Due.inn(2, "A.").slept(1, 0), 1);
        Due.is("12: a NIGHT behind who goes", Due.inn(2, "Aa.").slept(1, 0), 0);
        Due.is("12: nobody in 48 NIGHTS", Due.inn(2, Due.times(".", 48)).slept(0, 0), 0);
        Due.is("12: the most NIGHTS", Due.inn(2, "A" + Due.times(".", 47)).slept(1, 0), 47);
        Due.is("12: the most NIGHTS, the other BED", Due.inn(2, "A" + Due.times(".", 47)).slept(0, 0), 0);
        Due.is("12: one after another", Due.inn(2, "A.aB.").slept(1, 0), 2);
        Due.is("12: out of THE YARD", Due.inn(2, "ABC.a.").slept(1, 0), 2);
        Due.is("12: every BED is taken, BED 0", Due.inn(8, "ABCDEFGH.").slept(0, 0), 1);
        Due.is("12: every BED is taken, BED 7", Due.inn(8, "ABCDEFGH.").slept(7, 0), 1);
    }

    /** "USED: how many times it was taken." */
    private static void usedTimes() {
        Due.is("12: not taken", Due.inn(2, "A").slept(0, 1), 0);
        Due.is("12: taken once", Due.inn(2, "A").slept(1, 1), 1);
        Due.is("12: taken once, for many NIGHTS", Due.inn(2, "A...").slept(1, 1), 1);
        Due.is("12: taken most times", Due.inn(2, Due.times("Aa", 24)).slept(1, 1), 24);
        Due.is("12: left is not taken", Due.inn(2, "Aa").slept(1, 1), 1);
        Due.is("12: taken out of THE YARD", Due.inn(2, "ABCa").slept(1, 1), 2);
        Due.is("12: who waits takes none", Due.inn(2, "ABC").slept(1, 1), 1);
        Due.is("12: taken again by the same one", Due.inn(2, "AaA").slept(1, 1), 2);
    }

    /** "SHEETS: how many times a BED was taken by another one than who had it last (the first time, too)." */
    private static void sheetsChanged() {
        Due.is("12: not taken, no SHEETS", Due.inn(2, "A").slept(0, 2), 0);
        Due.is("12: the first time", Due.inn(2, "A").slept(1, 2), 1);
        Due.is("12: the first time, GUEST 7", Due.inn(2, "H").slept(1, 2), 1);
        Due.is("12: the same one again", Due.inn(2, "AaA").slept(1, 2), 1);
        Due.is("12: the same one 24 times", Due.inn(2, Due.times("Aa", 24)).slept(1, 2), 1);
        Due.is("12: two by turns, 24 times", Due.inn(2, Due.times("AaHh", 12)).slept(1, 2), 24);
        Due.is("12: another between", Due.inn(2, "AaBbA").slept(1, 2), 3);
        Due.is("12: the same one behind another's second time", Due.inn(2, "AaBbBbA").slept(1, 2), 3);
        Due.is("12: out of THE YARD another one", Due.inn(2, "ABCa").slept(1, 2), 2);
        Due.is("12: out of THE YARD, who had it last but one", Due.inn(2, "ABCaAc").slept(1, 2), 3);
        Due.is("12: no NIGHT is needed", Due.inn(2, "AaB").slept(1, 2), 2);
        WarmBeds x = Due.inn(2, "AaAaA");
        x.rule(1);
        Due.is("12: the same one, who was in the other BED meanwhile", x.slept(0, 2), 1);
        Due.is("12: the other BED", x.slept(1, 2), 1);
    }

    /** 12: "SLEPT (what = 0), USED (1), SHEETS (2). UNKNOWN; OUTSIDE" */
    private static void sleptWhat() {
        WarmBeds x = Due.inn(2, "A...aAaBb");
        Due.is("12: what -1", x.slept(1, -1), OUTSIDE);
        Due.is("12: what 0", x.slept(1, 0), 3);
        Due.is("12: what 1", x.slept(1, 1), 3);
        Due.is("12: what 2", x.slept(1, 2), 2);
        Due.is("12: what 3", x.slept(1, 3), OUTSIDE);
        Due.is("12: BED -1", x.slept(-1, 0), UNKNOWN);
        Due.is("12: BED 0", x.slept(0, 0), 0);
        Due.is("12: BED n", x.slept(2, 0), UNKNOWN);
        Due.is("12: BED n, ahead of what 3", x.slept(2, 3), UNKNOWN);
    }

    private static void fewest(String what, WarmBeds x, int law, int sheets) {
        for (int byLaw = 0; byLaw < 4; byLaw++) {
            x.rule(byLaw);
            Due.is("13: THE LAW, " + what, x.fewest(0), law);
            Due.is("13: SHEETS, " + what, x.fewest(1), sheets);
            Due.is("13: THE LAW that there is stays, " + what, x.told(2), byLaw);
        }
    }

    /** "FEWEST: THE LAW (0 to 3) by which SHEETS of all BEDS together are fewest": one alone. */
    private static void fewestSheets() {
        fewest("LAW 0 but for LAW 3, that is the same without WORTHS", Due.inn(2, "ABabBA"), 0, 2);
        WarmBeds x = Due.inn(2, "ABabBA");
        // By LAW 3 A and B have one another's BEDS when they come again.
        x.worth(0, 0, 1);
        x.worth(1, 0, 1);
        fewest("LAW 0 alone", x, 0, 2);
        fewest("LAW 1 alone", Due.inn(2, "ABbaBA"), 1, 2);
        fewest("LAW 2 alone", Due.inn(4, "ABabAB"), 2, 2);
        x = Due.inn(4, "ABCabcBCA");
        x.worth(0, 0, 9);
        x.worth(1, 1, 9);
        x.worth(2, 2, 9);
        fewest("LAW 3 alone", x, 3, 3);
    }

    /** "the least (of LAWS by which all EVENTS can be: by all, or by none)" */
    private static void fewestOfSeveral() {
        fewest("no EVENT", Due.inn(2, ""), 0, 0);
        fewest("nobody comes", Due.inn(2, "..."), 0, 0);
        fewest("one comes", Due.inn(2, "A"), 0, 1);
        fewest("all LAWS alike, every BED is taken", Due.inn(8, "ABCDEFGH"), 0, 8);
        fewest("LAWS 1 and 2 alike", Due.inn(3, "ABCabcABC"), 1, 3);
        WarmBeds x = Due.inn(4, "ABabAB");
        x.worth(0, 0, 1);
        x.worth(1, 1, 1);
        fewest("LAWS 2 and 3 alike", x, 2, 2);
        x = Due.inn(2, "ABbaBA");
        x.worth(0, 0, 1);
        x.worth(1, 1, 1);
        fewest("LAWS 1 and 3 alike", x, 1, 2);
        Due.is("13: by none", Due.inn(2, "ABA").fewest(0), NO);
        Due.is("13: by none, SHEETS", Due.inn(2, "c").fewest(1), NO);
        fewest("most SHEETS by all LAWS but one", Due.inn(2, Due.times("AaBb", 12)), 1, 2);
        fewest("who waits has none", Due.inn(2, "ABC"), 0, 2);
    }

    /** 13: "THE LAW (what = 0), SHEETS then (1). OUTSIDE" */
    private static void fewestWhat() {
        WarmBeds x = Due.inn(4, "ABabAB");
        Due.is("13: what -1", x.fewest(-1), OUTSIDE);
        Due.is("13: what 0", x.fewest(0), 2);
        Due.is("13: what 1", x.fewest(1), 2);
        Due.is("13: what 2", x.fewest(2), OUTSIDE);
    }
}
