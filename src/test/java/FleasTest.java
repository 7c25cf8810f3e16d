/** Promises 18 to 28. */
final class FleasTest {
    private static final int MIN = Integer.MIN_VALUE, MAX = Integer.MAX_VALUE;

    public static void main(String[] args) {
        promise18();
        promise19();
        promise20();
        promise21();
        promise22();
        promise23();
        promise24();
        promise25();
        promise26();
        promise27();
        promise28();
        Due.end();
    }

    private static void fleas(WarmBeds x, int who, int guests, int beds) {
        Due.is("18: GUESTS from " + who, x.fleas(who, 0), guests);
        Due.is("18: BEDS from " + who, x.fleas(who, 1), beds);
    }

    private static void promise18() {
        WarmBeds x = Due.day("A.aB.");
        fleas(x, 0, 3, 8);
        fleas(x, 1, 2, 8);
        fleas(x, 11, 3, 8);
        fleas(x, 8, 0, 1);
        fleas(x, 7, 128, 0);
        Due.write(x, "AaB");
        fleas(x, 0, 1, 0);
        fleas(x, 11, 0, 8);
        Due.write(x, "A.BaA.b.");
        fleas(x, 0, 1, 8);
        fleas(x, 1, 2, 4);
        fleas(x, 10, 2, 4);
        Due.write(x, "A.aB.bAC.acB.");
        fleas(x, 0, 3, 12);
        x.beds(2);
        Due.write(x, "ABC.a.");
        fleas(x, 2, 4, 2);
        fleas(x, 0, 5, 2);
        fleas(x, 9, 5, 2);
        Due.write(x, "ABC.c.");
        fleas(x, 2, 4, 0);
        Due.write(x, "");
        fleas(x, 0, 1, 0);
        fleas(x, 9, 0, 2);
    }

    private static void promise19() {
        WarmBeds x = Due.day("A.aB.");
        Due.is("19: A and B", x.brought(3), 1);
        Due.is("19: B alone", x.brought(2), 2);
        Due.is("19: A alone", x.brought(1), 0);
        Due.is("19: H alone", x.brought(128), 128);
        Due.is("19: nobody", x.brought(0), 0);
        Due.is("19: all", x.brought(255), 0);
        Due.write(x, "A.aB.bA.");
        Due.is("19: either", x.brought(3), 3);
        Due.write(x, "BA.a.AbBaA.");
        Due.is("19: as fleas tells it", x.brought(x.fleas(1, 0)) >> 1 & 1, 1);
        Due.is("19: set 256", x.brought(256), -2);
        Due.is("19: set -1", x.brought(-1), -2);
        Due.is("19: set MIN", x.brought(MIN), -2);
        x.say('A');
        Due.is("19: NO", x.brought(0), -5);
        x.say('?');
        Due.is("19: STATE", x.brought(0), -3);
        x.say('@');
        Due.is("19: NO of a FAULT", x.brought(0), -5);
        Due.is("19: OUTSIDE ahead of NO", x.brought(MAX), -2);
    }

    private static void promise20() {
        WarmBeds x = new WarmBeds();
        Due.is("20: GUEST 8", x.seen(8, 0), -1);
        Due.is("20: GUEST -1", x.seen(-1, 0), -1);
        Due.is("20: BED 4", x.seen(0, 4), -1);
        Due.is("20: BED -1", x.seen(0, -1), -1);
        for (int k = 1; k <= 6; k++) {
            Due.is("20: how many", x.seen(7, 3), k);
        }
        Due.is("20: the seventh", x.seen(0, 0), -4);
        Due.is("20: UNKNOWN ahead of FULL", x.seen(0, 4), -1);
        Due.is("20: six stay", x.told(3), 6);
        Due.write(x, "H");
        Due.is("20: six times the same one", x.filled(-1), 1);
        x.beds(8);
        Due.is("20: BED 7 of 8", x.seen(0, 7), 1);
        Due.write(x, "?");
        Due.is("20: it holds", x.could(0), 1);
    }

    private static void promise21() {
        WarmBeds x = Due.day("?");
        x.rule(1);
        x.worth(2, 2, 2);
        Due.is("21: none at first", x.forget(), 0);
        x.seen(0, 0);
        x.seen(1, 0);
        Due.is("21: both can not be", x.filled(-1), 0);
        Due.is("21: how many there were", x.forget(), 2);
        Due.is("21: they are gone", x.filled(-1), 8);
        Due.is("21: none is told", x.told(3), 0);
        Due.is("21: THE LAW stays", x.told(2), 1);
        Due.is("21: WORTHS stay", x.told(32), 2);
        Due.is("21: the PAD stays", x.told(0), 1);
        Due.is("21: one more is the first", x.seen(3, 0), 1);
        Due.is("21: only that one holds", x.could(0), 8);
    }

    private static void promise22() {
        WarmBeds x = Due.day("A?a?B");
        Due.is("22: ways", x.filled(-1), 36);
        Due.is("22: the first", x.filled(0), 2);
        Due.is("22: the second", x.filled(1), 0);
        Due.is("22: i past the last", x.filled(2), -6);
        Due.is("22: i below -1", x.filled(-2), -6);
        Due.is("22: i MIN", x.filled(MIN), -6);
        Due.is("22: i MAX", x.filled(MAX), -6);
        x.seen(2, 3);
        Due.is("22: ways by a SIGHT", x.filled(-1), 5);
        Due.is("22: the first by a SIGHT", x.filled(0), 3);
        x.seen(0, 3);
        Due.is("22: no way", x.filled(-1), 0);
        Due.is("22: none in no way", x.filled(0), -6);
        x.forget();
        Due.write(x, "???");
        Due.is("22: three", x.filled(-1), 336);
        Due.is("22: first of three", x.filled(0), 0);
        Due.is("22: third of three", x.filled(2), 2);
        x.seen(5, 1);
        x.rule(1);
        Due.is("22: by THE LAW", x.filled(1), 5);
        Due.is("22: ways by THE LAW", x.filled(-1), 42);
        x.rule(3);
        x.worth(5, 1, 1);
        Due.is("22: by WORTHS in any place", x.filled(-1), 126);
        x.forget();
        Due.write(x, "?h?h?h");
        Due.is("22: who goes must have come", x.filled(-1), 1);
        Due.is("22: H", x.filled(2), 7);
        Due.write(x, "?a");
        Due.is("22: A alone", x.filled(0), 0);
        Due.write(x, "");
        Due.is("22: none to write", x.filled(-1), 1);
        Due.is("22: none is written", x.filled(0), -6);
        x.seen(0, 0);
        Due.is("22: none to write, a SIGHT does not hold", x.filled(-1), 0);
        x.forget();
        Due.write(x, "AA");
        Due.is("22: EVENTS that can not be", x.filled(-1), 0);
        Due.write(x, "????");
        Due.is("22: a FAULT", x.filled(-1), -5);
        Due.is("22: a FAULT, i past the last", x.filled(9), -5);
        x.beds(2);
        Due.write(x, "AB?" + Due.times(".", 44) + "a");
        x.seen(6, 1);
        Due.is("22: who waited, in a full PAD", x.filled(0), 6);
    }

    private static void promise23() {
        WarmBeds x = Due.day("?A");
        Due.is("23: all but A", x.could(0), 254);
        Due.is("23: no such ?", x.could(1), -6);
        Due.is("23: i -1", x.could(-1), -6);
        Due.is("23: i MIN", x.could(MIN), -6);
        Due.is("23: i MAX", x.could(MAX), -6);
        x.seen(0, 3);
        Due.is("23: nobody", x.could(0), 0);
        x.forget();
        Due.write(x, "A?a?B");
        Due.is("23: neither A nor B", x.could(0), 252);
        Due.is("23: A, not B", x.could(1), 253);
        Due.write(x, "??b?");
        Due.is("23: one of both is B, the first", x.could(0), 255);
        Due.is("23: one of both is B, the second", x.could(1), 255);
        Due.is("23: B may come again", x.could(2), 255);
        x.seen(1, 3);
        Due.is("23: B was first and comes again", x.could(0), 2);
        Due.is("23: not B between", x.could(1), 253);
        Due.is("23: B again", x.could(2), 2);
        Due.write(x, "AA?");
        Due.is("23: EVENTS that can not be", x.could(0), 0);
        Due.write(x, "A");
        Due.is("23: no ?", x.could(0), -6);
        Due.write(x, "?<");
        Due.is("23: a FAULT", x.could(0), -5);
        Due.is("23: a FAULT, no such ?", x.could(7), -5);
    }

    private static void chances(WarmBeds x, int bed, int m, int t, long upper, long lower) {
        Due.is("24: upper", x.chance(bed, m, t, 0), upper);
        Due.is("24: lower", x.chance(bed, m, t, 1), lower);
    }

    private static void promise24() {
        WarmBeds x = Due.day("A");
        chances(x, 3, 0, 0, 1, 1);
        chances(x, 2, 0, 10, 0, 1);
        chances(x, 3, 1, 0, 0, 1);
        chances(x, 3, 1, 10, 1, 1);
        chances(x, 3, 1, 2, 1, 5);
        chances(x, 2, 1, 5, 1, 2);
        chances(x, 3, 1, 6, 3, 5);
        chances(x, 1, 2, 5, 1, 4);
        chances(x, 0, 3, 1, 1, 1000);
        chances(x, 0, 8, 10, 1, 1);
        chances(x, 3, 8, 0, 0, 1);
        chances(x, 0, 8, 7, 29501087L, 50000000L);
        Due.write(x, "");
        chances(x, 3, 1, 1, 1, 10);
        chances(x, 3, 2, 1, 1, 10);
        chances(x, 2, 2, 9, 81, 100);
        Due.write(x, "ABCDE");
        chances(x, 0, 1, 5, 1, 1);
        chances(x, 0, 2, 5, 3, 4);
        Due.write(x, "ABCDEe");
        chances(x, 0, 1, 5, 1, 2);
        x.rule(3);
        x.worth(7, 0, 99);
        Due.write(x, "");
        chances(x, 0, 1, 10, 0, 1);
    }

    private static void promise25() {
        WarmBeds x = Due.day("!AA");
        Due.is("25: whatever is on the PAD", x.year(0, 4, 3), 1);
        Due.is("25: one EVENT", x.year(0, 1, 2), 0);
        Due.is("25: the first comes", x.year(0, 1, 3), 1);
        Due.is("25: 99 EVENTS", x.year(77, 99, 0), 12);
        Due.is("25: the last BED", x.year(77, 99, 3), 9);
        x.rule(1);
        Due.is("25: by LAW 1", x.year(77, 99, 0), 8);
        x.rule(2);
        Due.is("25: by LAW 2", x.year(77, 99, 3), 13);
        Due.is("25: seed 9999", x.year(9999, 1, 0), 1);
        x.rule(3);
        // 75 x 0 and 74 is 74: GUEST 2 is the first to come.
        x.worth(2, 1, 1);
        Due.is("25: by WORTHS", x.year(0, 1, 1), 1);
        Due.is("25: BED 4", x.year(0, 0, 4), -1);
        Due.is("25: BED -1", x.year(0, 1, -1), -1);
        Due.is("25: seed 10000", x.year(10000, 1, 0), -2);
        Due.is("25: seed -1", x.year(-1, 1, 0), -2);
        Due.is("25: m 0", x.year(0, 0, 0), -2);
        Due.is("25: m 100", x.year(0, 100, 0), -2);
        Due.is("25: m MAX", x.year(0, MAX, 0), -2);
        Due.is("25: the PAD stays", x.told(0), 3);
    }

    private static void promise26() {
        WarmBeds x = Due.day("AB");
        Due.is("26: image(2)", x.image(2), -2);
        Due.is("26: image(-1)", x.image(-1), -2);
        Due.is("26: image(MIN)", x.image(MIN), -2);
        Due.is("26: none was kept", x.restore(0), -3);
        Due.is("26: image(1)", x.image(1), 1);
        Due.is("26: image 0 was not", x.restore(0), -3);
        Due.is("26: image(0)", x.image(0), 1);
        x.rule(2);
        Due.is("26: once more", x.image(0), 1);
        x.rule(3);
        x.restore(0);
        Due.is("26: the later one is kept", x.told(2), 2);
        x.restore(1);
        Due.is("26: the other one is kept", x.told(2), 0);
    }

    private static void promise27() {
        WarmBeds x = Due.day("AB");
        x.beds(6);
        x.rule(2);
        x.worth(3, 5, 42);
        x.seen(1, 5);
        x.seen(2, 4);
        x.image(0);
        x.worth(3, 5, 43);
        x.seen(3, 3);
        x.say('C');
        x.rule(1);
        x.image(1);
        x.beds(3);
        x.rule(0);
        Due.is("27: restore(0)", x.restore(0), 1);
        Due.is("27: BEDS", x.told(1), 6);
        Due.is("27: THE LAW", x.told(2), 2);
        Due.is("27: SIGHTS", x.told(3), 2);
        Due.is("27: WORTH", x.told(45), 42);
        Due.is("27: the PAD stays", x.told(0), 3);
        Due.write(x, "B");
        x.forget();
        x.restore(1);
        Due.is("27: SIGHTS of the other", x.told(3), 3);
        Due.is("27: WORTH of the other", x.told(45), 43);
        Due.is("27: THE LAW of the other", x.told(2), 1);
        Due.is("27: the PAD stays as it is", x.told(0), 1);
        x.worth(3, 5, 44);
        x.restore(1);
        Due.is("27: an IMAGE may be taken again", x.told(45), 43);
        x.forget();
        x.seen(7, 0);
        x.seen(6, 1);
        x.restore(0);
        x.rule(0);
        Due.write(x, "?C");
        Due.is("27: SIGHTS hold as they did", x.could(0), 2);
        Due.is("27: restore(2)", x.restore(2), -2);
        Due.is("27: restore(-1)", x.restore(-1), -2);
        Due.is("27: restore(MAX)", x.restore(MAX), -2);
        WarmBeds y = Due.day("A");
        y.rule(3);
        Due.is("27: STATE", y.restore(1), -3);
        Due.is("27: what was refused changes nothing", y.told(2), 3);
    }

    private static void promise28() {
        WarmBeds x = Due.day("A.?");
        x.rule(3);
        x.seen(0, 0);
        x.worth(0, 0, 9);
        x.worth(0, 3, 8);
        x.worth(7, 0, 7);
        Due.is("28: signs", x.told(0), 3);
        Due.is("28: BEDS", x.told(1), 4);
        Due.is("28: THE LAW", x.told(2), 3);
        Due.is("28: SIGHTS", x.told(3), 1);
        Due.is("28: the first WORTH", x.told(10), 9);
        Due.is("28: BED 3", x.told(13), 8);
        Due.is("28: GUEST 7", x.told(80), 7);
        Due.is("28: BED 4 of 4", x.told(14), -2);
        Due.is("28: 18", x.told(18), -2);
        Due.is("28: 19", x.told(19), -2);
        for (int what = 4; what < 10; what++) {
            Due.is("28: " + what, x.told(what), -2);
        }
        Due.is("28: -1", x.told(-1), -2);
        Due.is("28: 87 of 4 BEDS", x.told(87), -2);
        Due.is("28: 88", x.told(88), -2);
        Due.is("28: 90", x.told(90), -2);
        Due.is("28: MIN", x.told(MIN), -2);
        Due.is("28: MAX", x.told(MAX), -2);
        x.beds(8);
        x.worth(7, 7, 77);
        Due.is("28: the last WORTH", x.told(87), 77);
        Due.is("28: 18 of 8 BEDS", x.told(18), -2);
        Due.is("28: 88 of 8 BEDS", x.told(88), -2);
        Due.is("28: the PAD stays", x.wipe(), 3);
    }
}
