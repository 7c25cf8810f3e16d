/** Promises 9 to 13. */
final class NightsTest {
    private static final int MIN = Integer.MIN_VALUE, MAX = Integer.MAX_VALUE;

    public static void main(String[] args) {
        promise9();
        promise10();
        promise11();
        promise12();
        promise13();
        Due.end();
    }

    private static void promise9() {
        WarmBeds x = Due.day("ABCDEFa.");
        Due.is("9: behind none", x.bed(0, 0), -6);
        Due.is("9: behind the first", x.bed(0, 1), 3);
        Due.is("9: behind all but two", x.bed(0, 6), 3);
        Due.is("9: who went", x.bed(0, -1), -6);
        Due.is("9: in THE YARD", x.bed(4, 6), -6);
        Due.is("9: who waited longest has it at once", x.bed(4, 7), 3);
        Due.is("9: who waited less", x.bed(5, -1), -6);
        Due.is("9: who never came", x.bed(7, -1), -6);
        Due.is("9: as many as there are", x.bed(4, 8), 3);
        Due.is("9: more than there are", x.bed(4, 9), -2);
        Due.is("9: -2", x.bed(4, -2), -2);
        Due.is("9: MIN", x.bed(4, MIN), -2);
        Due.is("9: MAX", x.bed(4, MAX), -2);
        Due.is("9: GUEST 8", x.bed(8, -1), -1);
        Due.is("9: GUEST -1", x.bed(-1, -1), -1);
        Due.is("9: UNKNOWN ahead of OUTSIDE", x.bed(8, 9), -1);
        Due.write(x, "ABCDEFeaA");
        Due.is("9: who left THE YARD has none", x.bed(4, -1), -6);
        Due.is("9: the next has the BED", x.bed(5, -1), 3);
        Due.is("9: who comes again waits", x.bed(0, -1), -6);
    }

    private static void promise10() {
        WarmBeds x = Due.day("ABCDEFb");
        Due.is("10: the first", x.who(3, -1), 0);
        Due.is("10: who waited", x.who(2, -1), 4);
        Due.is("10: ahead of that", x.who(2, 6), 1);
        Due.is("10: empty", x.who(0, 3), -6);
        Due.is("10: behind none", x.who(3, 0), -6);
        Due.is("10: BED 4", x.who(4, -1), -1);
        Due.is("10: BED -1", x.who(-1, -1), -1);
        Due.is("10: BED MIN", x.who(MIN, MIN), -1);
        Due.is("10: -2", x.who(0, -2), -2);
        Due.is("10: 8 EVENTS of 7", x.who(0, 8), -2);
        x.say('?');
        Due.is("10: some ? behind these", x.who(2, 7), 4);
        Due.is("10: STATE", x.who(2, 8), -3);
        x.say('%');
        Due.is("10: NO", x.who(2, 7), -5);
        Due.write(x, "Aa.a");
        Due.is("10: one that can not be", x.who(3, -1), -5);
        Due.is("10: ahead of it", x.who(3, 3), -6);
    }

    private static void empties(WarmBeds x, int events, String want) {
        StringBuilder got = new StringBuilder();
        for (int i = 0; i < 9; i++) {
            int bed = x.left(events, i);
            got.append(bed == -6 ? "" : bed + " ");
        }
        Due.are("11: the empty BEDS", got.toString(), want);
    }

    private static void promise11() {
        WarmBeds x = Due.day("ABCbaD");
        empties(x, 0, "3 2 1 0");
        empties(x, 3, "0");
        empties(x, 4, "2 0");
        empties(x, 5, "3 2 0");
        empties(x, -1, "2 0");
        Due.is("11: none waits", x.left(-1, -1), 0);
        Due.is("11: i below -1", x.left(-1, -2), -6);
        Due.is("11: i MIN", x.left(-1, MIN), -6);
        Due.is("11: i MAX", x.left(-1, MAX), -6);
        Due.is("11: i past the last", x.left(-1, 2), -6);
        Due.is("11: -2", x.left(-2, 0), -2);
        Due.is("11: 7 EVENTS of 6", x.left(7, MIN), -2);
        x.rule(1);
        empties(x, 5, "0 1 3");
        Due.write(x, "ABCDEFGHaAfgb");
        empties(x, 8, "");
        Due.is("11: four wait", x.left(8, -1), 4);
        Due.is("11: the longest goes in", x.left(9, -1), 3);
        Due.is("11: one comes again", x.left(10, -1), 4);
        Due.is("11: two go out of THE YARD", x.left(12, -1), 2);
        Due.is("11: one more goes in", x.left(13, -1), 1);
        Due.is("11: that is H", x.who(1, 13), 7);
        x.say('?');
        Due.is("11: STATE", x.left(-1, -1), -3);
        Due.is("11: STATE, i below -1, too", x.left(-1, -2), -3);
        Due.write(x, "AA");
        Due.is("11: NO", x.left(-1, -1), -5);
        Due.write(x, "Az");
        Due.is("11: NO of a FAULT", x.left(0, -1), -5);
        x = Due.day("");
        x.beds(8);
        empties(x, -1, "7 6 5 4 3 2 1 0");
    }

    private static void counts(WarmBeds x, int bed, int nights, int used, int sheets) {
        Due.is("12: SLEPT of " + bed, x.slept(bed, 0), nights);
        Due.is("12: USED of " + bed, x.slept(bed, 1), used);
        Due.is("12: SHEETS of " + bed, x.slept(bed, 2), sheets);
    }

    private static void promise12() {
        WarmBeds x = Due.day(".A..a.A.aB.bA");
        counts(x, 3, 4, 4, 3);
        counts(x, 0, 0, 0, 0);
        x.beds(2);
        Due.write(x, "ABCDa.cb.d.");
        counts(x, 1, 2, 3, 3);
        counts(x, 0, 1, 1, 1);
        Due.write(x, "ABC.aA.b.");
        counts(x, 1, 3, 2, 2);
        counts(x, 0, 3, 2, 2);
        Due.is("12: who comes again into a BED that another left", x.bed(0, -1), 0);
        Due.is("12: BED 2", x.slept(2, 0), -1);
        Due.is("12: BED -1", x.slept(-1, 3), -1);
        Due.is("12: what 3", x.slept(0, 3), -2);
        Due.is("12: what -1", x.slept(0, -1), -2);
        Due.is("12: what MAX", x.slept(0, MAX), -2);
        x.say('?');
        Due.is("12: STATE", x.slept(0, 0), -3);
        x.say('A');
        Due.is("12: STATE ahead of an EVENT that can not be", x.slept(0, 0), -3);
        x.say('_');
        Due.is("12: NO of a FAULT ahead of STATE", x.slept(0, 0), -5);
        Due.is("12: OUTSIDE ahead of NO", x.slept(0, 3), -2);
        Due.write(x, "a");
        Due.is("12: NO", x.slept(0, 0), -5);
        Due.write(x, Due.times(".", 48));
        counts(x, 1, 0, 0, 0);
        Due.write(x, "A" + Due.times(".", 47));
        counts(x, 1, 47, 1, 1);
    }

    private static void promise13() {
        WarmBeds x = Due.day("AaA");
        Due.is("13: LAW 0", x.fewest(0), 0);
        Due.is("13: SHEETS", x.fewest(1), 1);
        x.rule(1);
        Due.is("13: whichever LAW there is", x.fewest(0), 0);
        Due.is("13: SHEETS then", x.fewest(1), 1);
        Due.is("13: THE LAW stays", x.told(2), 1);
        x = Due.day("ABabAB");
        Due.is("13: the longest empty is the own one only by LAW 2", x.fewest(0), 2);
        Due.is("13: SHEETS by LAW 2", x.fewest(1), 2);
        x = Due.day("BAabBA");
        Due.is("13: LAW 0 is the least", x.fewest(0), 0);
        x = Due.day("ABCabcBCA");
        x.worth(0, 0, 9);
        x.worth(1, 1, 9);
        x.worth(2, 2, 9);
        Due.is("13: LAW 3 by WORTHS", x.fewest(0), 3);
        Due.is("13: SHEETS by LAW 3", x.fewest(1), 3);
        x.beds(3);
        Due.write(x, "ABCabcABC");
        Due.is("13: LAW 1 gives each one the own BED", x.fewest(0), 1);
        Due.is("13: SHEETS by LAW 1", x.fewest(1), 3);
        Due.is("13: what 2", x.fewest(2), -2);
        Due.is("13: what -1", x.fewest(-1), -2);
        x.say('?');
        Due.is("13: STATE", x.fewest(0), -3);
        x.say('?');
        x.say('?');
        x.say('?');
        Due.is("13: NO of a FAULT", x.fewest(0), -5);
        Due.write(x, "AA");
        Due.is("13: NO", x.fewest(1), -5);
        Due.is("13: an empty PAD", new WarmBeds().fewest(1), 0);
    }
}
