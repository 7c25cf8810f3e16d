/** Promises 1 to 8. */
final class BedsAndDaysTest {
    private static final int MIN = Integer.MIN_VALUE, MAX = Integer.MAX_VALUE;

    public static void main(String[] args) {
        promise1();
        promise2();
        promise3();
        promise4();
        promise5();
        promise6();
        promise7();
        promise8();
        Due.end();
    }

    private static void promise1() {
        WarmBeds x = new WarmBeds();
        Due.is("1: signs at first", x.told(0), 0);
        Due.is("1: BEDS at first", x.told(1), 4);
        Due.is("1: THE LAW at first", x.told(2), 0);
        Due.is("1: SIGHTS at first", x.told(3), 0);
        for (int guest = 0; guest < 8; guest++) {
            for (int bed = 0; bed < 4; bed++) {
                Due.is("1: WORTH at first", x.told(10 + 10 * guest + bed), 0);
            }
        }
        Due.is("1: all empty", x.left(-1, -1), 0);
        for (int i = 0; i < 4; i++) {
            Due.is("1: the last one left last", x.left(-1, i), 3 - i);
        }
        Due.is("1: no IMAGE 0", x.restore(0), -3);
        Due.is("1: no IMAGE 1", x.restore(1), -3);
    }

    private static void promise2() {
        WarmBeds x = Due.day("AB");
        Due.is("2: beds(1)", x.beds(1), -2);
        Due.is("2: beds(9)", x.beds(9), -2);
        Due.is("2: beds(-1)", x.beds(-1), -2);
        Due.is("2: beds(MIN)", x.beds(MIN), -2);
        Due.is("2: beds(MAX)", x.beds(MAX), -2);
        Due.is("2: BEDS behind what was refused", x.told(1), 4);
        x.rule(2);
        x.worth(3, 1, 50);
        x.seen(0, 1);
        Due.is("2: beds(9) keeps", x.beds(9), -2);
        Due.is("2: WORTH behind what was refused", x.told(41), 50);
        Due.is("2: SIGHTS behind what was refused", x.told(3), 1);
        Due.is("2: beds(4), as many as there were", x.beds(4), 4);
        Due.is("2: WORTH as at first", x.told(41), 0);
        Due.is("2: SIGHTS as at first", x.told(3), 0);
        Due.is("2: THE LAW stays", x.told(2), 2);
        Due.is("2: the PAD stays", x.told(0), 2);
        Due.is("2: beds(2)", x.beds(2), 4);
        Due.is("2: BED 2 is gone", x.who(2, -1), -1);
        Due.is("2: BED 1 is there", x.who(1, -1), 1);
        Due.is("2: beds(8)", x.beds(8), 2);
        Due.is("2: BED 7 is there", x.who(7, -1), -6);
        Due.is("2: which it was", x.beds(3), 8);
        x = Due.day("");
        x.beds(8);
        x.worth(7, 7, 99);
        x.worth(0, 0, 98);
        x.beds(2);
        x.beds(8);
        Due.is("2: the first WORTH", x.told(10), 0);
        Due.is("2: WORTH of a BED that was gone", x.told(87), 0);
    }

    private static void promise3() {
        WarmBeds x = new WarmBeds();
        Due.is("3: which it was at first", x.worth(0, 0, 99), 0);
        Due.is("3: which it was", x.worth(0, 0, 1), 99);
        Due.is("3: v 0", x.worth(0, 0, 0), 1);
        Due.is("3: last GUEST and BED", x.worth(7, 3, 12), 0);
        Due.is("3: it is told", x.told(83), 12);
        Due.is("3: others stay", x.told(80), 0);
        Due.is("3: guest 8", x.worth(8, 0, 5), -1);
        Due.is("3: guest -1", x.worth(-1, 0, 5), -1);
        Due.is("3: bed 4", x.worth(0, 4, 5), -1);
        Due.is("3: bed -1", x.worth(0, -1, 5), -1);
        Due.is("3: bed MIN", x.worth(0, MIN, 5), -1);
        Due.is("3: guest MAX", x.worth(MAX, 0, 5), -1);
        Due.is("3: v 100", x.worth(7, 3, 100), -2);
        Due.is("3: v -1", x.worth(7, 3, -1), -2);
        Due.is("3: UNKNOWN ahead of OUTSIDE", x.worth(7, 4, 100), -1);
        Due.is("3: behind what was refused", x.told(83), 12);
        x.beds(8);
        Due.is("3: BED 7 of 8", x.worth(7, 7, 1), 0);
        Due.is("3: BED 8 of 8", x.worth(7, 8, 1), -1);
    }

    private static void promise4() {
        WarmBeds x = new WarmBeds();
        Due.is("4: 0 at first", x.rule(3), 0);
        Due.is("4: which it was", x.rule(1), 3);
        Due.is("4: rule(4)", x.rule(4), -2);
        Due.is("4: rule(-1)", x.rule(-1), -2);
        Due.is("4: rule(MIN)", x.rule(MIN), -2);
        Due.is("4: behind what was refused", x.told(2), 1);
        Due.is("4: rule(2)", x.rule(2), 1);
        x = Due.day("ABbaC");
        Due.is("4: LAW 0, left last", x.bed(2, -1), 3);
        x.rule(1);
        Due.is("4: LAW 1, left first", x.bed(2, -1), 2);
        x.rule(2);
        Due.is("4: LAW 2, least number", x.bed(2, -1), 0);
        Due.write(x, "ABCDdabE");
        Due.is("4: LAW 2, left neither first nor last", x.bed(4, -1), 0);
        Due.write(x, "ABCDbadE");
        Due.is("4: LAW 2, the second of three", x.bed(4, -1), 0);
        Due.write(x, "ABbaC");
        x.rule(3);
        x.worth(2, 1, 5);
        x.worth(2, 2, 5);
        Due.is("4: LAW 3, dearest, of two the one left last", x.bed(2, -1), 2);
        x.worth(2, 1, 6);
        Due.is("4: LAW 3, dearest", x.bed(2, -1), 1);
        x.worth(2, 3, 7);
        x.worth(2, 0, 7);
        Due.is("4: LAW 3, of several, one left behind the others", x.bed(2, -1), 3);
        Due.write(x, "ABCDEa");
        Due.is("4: LAW 3 leaves no choice to who waits", x.bed(4, -1), x.bed(0, 1));
    }

    private static void promise5() {
        WarmBeds x = new WarmBeds();
        Due.is("5: sign 32", x.say(32), -2);
        Due.is("5: sign 127", x.say(127), -2);
        Due.is("5: sign MIN", x.say(MIN), -2);
        Due.is("5: sign -1", x.say(-1), -2);
        Due.is("5: sign 256 and 65", x.say(256 + 65), -2);
        Due.is("5: none was taken", x.told(0), 0);
        Due.is("5: sign 33", x.say(33), 1);
        Due.is("5: sign 126", x.say(126), 2);
        for (int k = 3; k <= 48; k++) {
            Due.is("5: how many", x.say('.'), k);
        }
        Due.is("5: the 49th", x.say('.'), -4);
        Due.is("5: OUTSIDE ahead of FULL", x.say(32), -2);
        Due.is("5: 48 stay", x.told(0), 48);
    }

    private static void promise6() {
        WarmBeds x = Due.day("AB.");
        x.rule(1);
        x.worth(1, 1, 1);
        x.seen(1, 1);
        Due.is("6: how many there were", x.wipe(), 3);
        Due.is("6: now none", x.wipe(), 0);
        Due.is("6: THE LAW stays", x.told(2), 1);
        Due.is("6: WORTHS stay", x.told(21), 1);
        Due.is("6: SIGHTS stay", x.told(3), 1);
        Due.is("6: none is there", x.bed(0, -1), -6);
        Due.write(x, Due.times(".", 48));
        Due.is("6: a full PAD", x.wipe(), 48);
        Due.is("6: there is room again", x.say('.'), 1);
    }

    private static void promise7() {
        WarmBeds x = Due.day("ABCDEFGHabcdefgh???.");
        Due.is("7: all signs that can stand", x.fault(), -6);
        x.say('?');
        Due.is("7: the fourth ?", x.fault(), 20);
        Due.is("7: an empty PAD", new WarmBeds().fault(), -6);
        for (int sign = 33; sign <= 126; sign++) {
            x = Due.day("A.?");
            x.say(sign);
            boolean can = "ABCDEFGHabcdefgh?.".indexOf(sign) >= 0;
            Due.is("7: sign " + sign, x.fault(), can ? -6 : 3);
        }
        Due.is("7: the first of several", Due.day(".!.I?").fault(), 1);
        Due.is("7: a sign ahead of the fourth ?", Due.day("?i????").fault(), 1);
        Due.is("7: the fourth ? ahead of a sign", Due.day("????i").fault(), 3);
        Due.is("7: EVENTS that can not be are no FAULT", Due.day("aAA").fault(), -6);
        Due.is("7: in the last place", Due.day(Due.times(".", 47) + "Z").fault(), 47);
    }

    private static void judged(String day, int place, int why) {
        WarmBeds x = Due.day(day);
        Due.is("8: the EVENT of " + day, x.judge(0), place);
        Due.is("8: why of " + day, x.judge(1), why);
    }

    private static void promise8() {
        judged("", -6, -6);
        judged("A.a.A", -6, -6);
        judged("AA", 1, 1);
        judged("a", 0, 2);
        judged("AaBa", 3, 2);
        judged("Aba", 1, 2);
        judged("ABCDEE", 5, 1);
        judged("ABCDEeEe", -6, -6);
        judged("ABCDEee", 6, 2);
        judged("ABCDEaE", 6, 1);
        judged("H.h.hHH", 4, 2);
        judged(Due.times(".", 46) + "BB", 47, 1);
        judged("A?A", -3, -3);
        judged("AA?", -3, -3);
        judged("A?I", -5, -5);
        judged("AA!", -5, -5);
        WarmBeds x = Due.day("AA!");
        Due.is("8: judge(2)", x.judge(2), -2);
        Due.is("8: judge(-1)", x.judge(-1), -2);
        Due.is("8: judge(MIN)", x.judge(MIN), -2);
        Due.is("8: judge(MAX)", x.judge(MAX), -2);
    }
}
