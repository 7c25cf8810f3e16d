/** Promises 1 to 8: what holds at each boundary that they name. */
final class EdgesOfDaysTest {
    private static final int NONE = -6, UNKNOWN = -1, OUTSIDE = -2, STATE = -3, FULL = -4, NO = -5;

    public static void main(String[] args) {
        newObject();
        lastOfAllCalls();
        bedsWere();
        bedsMakeWorthsAndSightsAsAtFirst();
        bedsLeaveTheRest();
        worthWas();
        ruleWas();
        sayCounts();
        wipeCounts();
        wipeLeavesTheRest();
        faultIsAskedAlone();
        judgeWhat();
        judgeIsRefused();
        Due.end();
    }

    /** 1: "Four BEDS." */
    private static void newObject() {
        WarmBeds x = new WarmBeds();
        Due.is("1: BED 3 is there", x.who(3, -1), NONE);
        Due.is("1: BED 4 is not", x.who(4, -1), UNKNOWN);
        Due.is("1: no SIGN", x.wipe(), 0);
        Due.is("1: no SIGHT", x.forget(), 0);
        Due.is("1: THE LAW", x.told(2), 0);
        for (int guest = 0; guest < 8; guest++) {
            for (int bed = 0; bed < 4; bed++) {
                Due.is("1: WORTH of " + bed + " to " + guest, x.told(10 + 10 * guest + bed), 0);
            }
        }
        Due.is("1: no IMAGE 0", x.restore(0), STATE);
        Due.is("1: no IMAGE 1", x.restore(1), STATE);
    }

    /** "An object is used for at most 512 calls after it has been made" */
    private static void lastOfAllCalls() {
        WarmBeds x = new WarmBeds();
        for (int call = 1; call <= 512; call++) {
            Due.is("call " + call, x.rule(call % 4), (call - 1) % 4);
        }
    }

    /** 2: "How many BEDS: which it was." */
    private static void bedsWere() {
        WarmBeds x = new WarmBeds();
        Due.is("2: four at first", x.beds(2), 4);
        for (int n = 3; n <= 8; n++) {
            Due.is("2: which it was ahead of " + n, x.beds(n), n - 1);
        }
        Due.is("2: eight, as it was", x.beds(8), 8);
        Due.is("2: one above the last", x.beds(9), OUTSIDE);
        Due.is("2: that is not which it was", x.beds(2), 8);
        Due.is("2: one below the first", x.beds(1), OUTSIDE);
        Due.is("2: that is not, either", x.beds(2), 2);
    }

    /** 2: "WORTHS, SIGHTS are as at first." */
    private static void bedsMakeWorthsAndSightsAsAtFirst() {
        for (int n = 2; n <= 8; n++) {
            WarmBeds x = Due.inn(8, "A");
            for (int guest = 0; guest < 8; guest++) {
                x.worth(guest, 0, 99);
                x.worth(guest, 7, 99);
            }
            for (int k = 0; k < 6; k++) {
                x.seen(1, 7);
            }
            x.beds(n);
            Due.is("2: no SIGHT behind beds(" + n + ")", x.told(3), 0);
            Due.is("2: no SIGHT that does not hold", x.filled(-1), 1);
            Due.is("2: the first SIGHT behind beds(" + n + ")", x.seen(0, n - 1), 1);
            Due.is("2: it holds", x.filled(-1), 1);
            x.beds(8);
            for (int guest = 0; guest < 8; guest++) {
                Due.is("2: WORTH of BED 0 to " + guest, x.told(10 + 10 * guest), 0);
                Due.is("2: WORTH of BED 7 to " + guest, x.told(17 + 10 * guest), 0);
            }
        }
    }

    /** 2: what is not named stays: THE LAW, the PAD, the IMAGES. */
    private static void bedsLeaveTheRest() {
        WarmBeds x = Due.lived("AB.");
        Due.is("2: as many as there are", x.beds(5), 5);
        Due.is("2: THE LAW stays", x.told(2), 3);
        Due.is("2: the PAD stays", x.told(0), 3);
        Due.is("2: who is in a BED", x.who(4, -1), 0);
        Due.is("2: IMAGE 0 stays", x.restore(0), 1);
        Due.is("2: BEDS of IMAGE 0", x.told(1), 3);
        Due.is("2: WORTH of IMAGE 0", x.told(22), 7);
        Due.is("2: IMAGE 1 stays", x.restore(1), 1);
        Due.is("2: BEDS of IMAGE 1", x.told(1), 5);
        Due.is("2: SIGHTS of IMAGE 1", x.told(3), 1);
    }

    /** 3: "WORTH of a BED to a GUEST: which it was.": at the corners of GUESTS and BEDS, none in another's place. */
    private static void worthWas() {
        for (int n = 2; n <= 8; n++) {
            WarmBeds x = Due.inn(n, "");
            Due.is("3: GUEST 0, BED 0", x.worth(0, 0, 1), 0);
            Due.is("3: GUEST 0, the last BED", x.worth(0, n - 1, 2), 0);
            Due.is("3: GUEST 1, BED 0", x.worth(1, 0, 3), 0);
            Due.is("3: GUEST 7, BED 0", x.worth(7, 0, 98), 0);
            Due.is("3: GUEST 7, the last BED", x.worth(7, n - 1, 99), 0);
            Due.is("3: GUEST 0, BED 0 was", x.worth(0, 0, 0), 1);
            Due.is("3: GUEST 0, the last BED was", x.worth(0, n - 1, 0), 2);
            Due.is("3: GUEST 1, BED 0 was", x.worth(1, 0, 0), 3);
            Due.is("3: GUEST 7, BED 0 was", x.worth(7, 0, 0), 98);
            Due.is("3: GUEST 7, the last BED was", x.worth(7, n - 1, 0), 99);
        }
        WarmBeds x = new WarmBeds();
        x.worth(0, 0, 50);
        Due.is("3: the same once more", x.worth(0, 0, 50), 50);
        Due.is("3: one above the last", x.worth(0, 0, 100), OUTSIDE);
        Due.is("3: that is not which it was", x.worth(0, 0, 1), 50);
    }

    /** 4: "THE LAW: which it was. OUTSIDE: 0 to 3." */
    private static void ruleWas() {
        WarmBeds x = new WarmBeds();
        Due.is("4: THE LAW at first", x.rule(0), 0);
        Due.is("4: the first was", x.rule(3), 0);
        Due.is("4: the last was", x.rule(3), 3);
        Due.is("4: one below the first", x.rule(-1), OUTSIDE);
        Due.is("4: that is not which it was", x.rule(1), 3);
        Due.is("4: one above the last", x.rule(4), OUTSIDE);
        Due.is("4: that is not, either", x.rule(2), 1);
        Due.is("4: it is told", x.told(2), 2);
    }

    /** 5: "A sign more: how many. OUTSIDE; FULL." */
    private static void sayCounts() {
        WarmBeds x = new WarmBeds();
        for (int sign = 33; sign <= 80; sign++) {
            Due.is("5: how many by sign " + sign, x.say(sign), sign - 32);
        }
        Due.is("5: the 49th", x.say(81), FULL);
        Due.is("5: OUTSIDE ahead of FULL, below", x.say(32), OUTSIDE);
        Due.is("5: OUTSIDE ahead of FULL, above", x.say(127), OUTSIDE);
        Due.is("5: there are 48", x.told(0), 48);
        x.wipe();
        for (int sign = 79; sign <= 126; sign++) {
            Due.is("5: how many by sign " + sign, x.say(sign), sign - 78);
        }
        Due.refused("5: a FAULT is no room", () -> Due.lived(Due.times("!", 48)), y -> y.say('A'), FULL);
    }

    /** 6: "Signs go: how many there were." */
    private static void wipeCounts() {
        Due.is("6: none", new WarmBeds().wipe(), 0);
        Due.is("6: one", Due.day("A").wipe(), 1);
        Due.is("6: 47", Due.day(Due.times(".", 47)).wipe(), 47);
        Due.is("6: 48", Due.day(Due.times(".", 48)).wipe(), 48);
        Due.is("6: with a FAULT", Due.day("A!?").wipe(), 3);
        WarmBeds x = Due.day("AB????!");
        x.wipe();
        Due.is("6: none is left", x.told(0), 0);
        Due.is("6: none to wipe", x.wipe(), 0);
        Due.is("6: no FAULT is left", x.fault(), NONE);
        Due.is("6: no ? is left", x.could(0), NONE);
        Due.is("6: nobody is left", x.bed(0, -1), NONE);
        Due.is("6: the next is the first", x.say('?'), 1);
        Due.is("6: no ? is counted from ahead of it", x.fault(), NONE);
    }

    /** 6: nothing else goes. */
    private static void wipeLeavesTheRest() {
        WarmBeds x = Due.lived("AB!");
        x.wipe();
        Due.are("6: the rest", Whole.of(x), Whole.of(Due.lived("")));
    }

    /** 7: "THE FAULT; NONE.": it needs nothing else to be as it should. */
    private static void faultIsAskedAlone() {
        Due.is("7: none", new WarmBeds().fault(), NONE);
        Due.is("7: none, though an EVENT can not be", Due.day("AAb").fault(), NONE);
        Due.is("7: none, though some are not told", Due.day("???").fault(), NONE);
        Due.is("7: behind an EVENT that can not be", Due.day("AA!").fault(), 2);
        for (int place = 0; place < 48; place++) {
            String day = Due.times(".", place) + "~" + Due.times(".", 47 - place);
            Due.is("7: in place " + place, Due.day(day).fault(), place);
        }
        for (int place = 3; place < 48; place++) {
            String day = "???" + Due.times(".", place - 3) + "?" + Due.times("?", 47 - place);
            Due.is("7: the fourth ? in place " + place, Due.day(day).fault(), place);
        }
    }

    /** 8: "the EVENT (what = 0), why (1); NONE." */
    private static void judgeWhat() {
        Due.refused("8: what -1", () -> Due.lived("AA"), x -> x.judge(-1), OUTSIDE);
        Due.is("8: what 0", Due.day("A.A").judge(0), 2);
        Due.is("8: what 1", Due.day("A.A").judge(1), 1);
        Due.refused("8: what 2", () -> Due.lived("AA"), x -> x.judge(2), OUTSIDE);
        Due.is("8: no EVENT, what 0", Due.day("").judge(0), NONE);
        Due.is("8: no EVENT, what 1", Due.day("").judge(1), NONE);
        Due.is("8: none that can not be, what 0", Due.day("Aa.A").judge(0), NONE);
        Due.is("8: none that can not be, what 1", Due.day("Aa.A").judge(1), NONE);
    }

    /** 8: "NO: there is a FAULT; STATE: there is some ?." */
    private static void judgeIsRefused() {
        Due.is("8: a FAULT behind the EVENT", Due.day("AA!").judge(0), NO);
        Due.is("8: a FAULT ahead of it", Due.day("!AA").judge(1), NO);
        Due.is("8: some ? behind the EVENT", Due.day("AA?").judge(0), STATE);
        Due.is("8: some ? ahead of it", Due.day("?AA").judge(1), STATE);
        Due.is("8: three of ?", Due.day("???").judge(0), STATE);
        Due.is("8: the fourth ? is a FAULT", Due.day("????").judge(0), NO);
        Due.is("8: a FAULT ahead of some ?", Due.day("?!").judge(0), NO);
        Due.is("8: what 2 ahead of a FAULT", Due.day("!?").judge(2), OUTSIDE);
        Due.is("8: what -1 ahead of some ?", Due.day("?").judge(-1), OUTSIDE);
    }
}
