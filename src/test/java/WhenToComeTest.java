/** Promises 14 to 17. */
final class WhenToComeTest {
    private static final int MAX = Integer.MAX_VALUE;

    public static void main(String[] args) {
        promise14();
        promise15();
        promise16();
        promise17();
        Due.end();
    }

    private static void whens(WarmBeds x, int guest, int bed, int places, int first) {
        Due.is("14: places of BED " + bed, x.when(guest, bed, 0), places);
        Due.is("14: the first of BED " + bed, x.when(guest, bed, 1), first);
    }

    private static void promise14() {
        WarmBeds x = Due.day("ABbC");
        whens(x, 7, 3, 1, 0);
        whens(x, 7, 2, 2, 1);
        whens(x, 7, 1, 2, 2);
        whens(x, 7, 0, 0, -6);
        Due.write(x, "ABCDa");
        whens(x, 4, 3, 3, 0);
        whens(x, 4, 2, 1, 1);
        whens(x, 4, 1, 1, 2);
        whens(x, 4, 0, 1, 3);
        x.beds(2);
        Due.write(x, "ABCDbad");
        whens(x, 4, 1, 6, 0);
        whens(x, 4, 0, 2, 1);
        Due.write(x, "ABCDb");
        whens(x, 5, 0, 2, 1);
        x.beds(4);
        Due.write(x, "");
        whens(x, 0, 3, 1, 0);
        whens(x, 0, 2, 0, -6);
        Due.write(x, Due.times(".", 47));
        whens(x, 5, 3, 48, 0);
    }

    private static void bests(WarmBeds x, int guest, int place, int worth) {
        Due.is("15: the place", x.best(guest, 0), place);
        Due.is("15: WORTH then", x.best(guest, 1), worth);
    }

    private static void promise15() {
        WarmBeds x = Due.day("ABbC");
        bests(x, 7, 0, 0);
        x.worth(7, 1, 5);
        bests(x, 7, 2, 5);
        x.worth(7, 2, 5);
        bests(x, 7, 1, 5);
        x.worth(7, 0, 99);
        bests(x, 7, 1, 5);
        x.worth(7, 3, 6);
        bests(x, 7, 0, 6);
        x.rule(3);
        bests(x, 7, 0, 99);
        x = Due.day("ABCD");
        x.worth(4, 3, 0);
        bests(x, 4, 0, 0);
        x.beds(2);
        Due.write(x, "ABaCbD");
        x.worth(4, 1, 3);
        bests(x, 4, 0, 3);
        x.worth(4, 0, 4);
        bests(x, 4, 1, 4);
        Due.write(x, "");
        bests(x, 4, 0, 3);
        Due.write(x, "AB");
        bests(x, 4, 1, 4);
        x.beds(4);
        x.worth(4, 1, 1);
        bests(x, 4, 2, 1);
        x.beds(2);
        x.worth(4, 1, 3);
        x.worth(4, 0, 4);
        Due.write(x, "ABCabcDGdFg");
        bests(x, 4, 1, 4);
    }

    private static void reached(WarmBeds x, String want) {
        StringBuilder got = new StringBuilder();
        for (int bed = 0; bed < x.told(1); bed++) {
            got.append(x.reach(bed)).append(' ');
        }
        Due.are("16: REACH", got.toString(), want);
    }

    private static void promise16() {
        WarmBeds x = Due.day("");
        reached(x, "4 3 2 1");
        x.rule(1);
        reached(x, "1 2 3 4");
        x.rule(3);
        for (int guest = 0; guest < 8; guest++) {
            x.worth(guest, 0, 9);
        }
        reached(x, "4 3 2 1");
        x.rule(0);
        Due.write(x, "ABCbD");
        reached(x, "1 0 0 0");
        Due.write(x, "ABCDEb");
        reached(x, "0 0 0 0");
        Due.write(x, "ABCDac");
        reached(x, "0 1 0 2");
        x.rule(2);
        reached(x, "1 0 2 0");
        x.rule(0);
        x.beds(8);
        Due.write(x, "");
        reached(x, "8 7 6 5 4 3 2 1");
        Due.is("16: BED 8", x.reach(8), -1);
        Due.is("16: BED -1", x.reach(-1), -1);
        Due.is("16: BED MAX", x.reach(MAX), -1);
        Due.write(x, "AA");
        Due.is("16: NO", x.reach(0), -5);
        Due.write(x, "AA?");
        Due.is("16: STATE", x.reach(0), -3);
        Due.write(x, "AA?'");
        Due.is("16: NO of a FAULT", x.reach(0), -5);
        Due.is("16: UNKNOWN ahead of NO", x.reach(8), -1);
    }

    private static void best(WarmBeds x, int set, int worths, String want) {
        Due.is("17: WORTHS of " + set, x.party(set, -1), worths);
        StringBuilder got = new StringBuilder();
        for (int i = 0; i < 8; i++) {
            int guest = x.party(set, i);
            got.append(guest == -6 ? "" : "" + (char) ('A' + guest));
        }
        Due.are("17: the order of " + set, got.toString(), want);
    }

    private static void promise17() {
        WarmBeds x = Due.day("");
        best(x, 1, 0, "A");
        best(x, 252, 0, "CDEFGH");
        best(x, 128, 0, "H");
        x.worth(0, 0, 9);
        best(x, 15, 9, "BCDA");
        x.worth(1, 3, 9);
        x.worth(2, 3, 9);
        best(x, 15, 18, "BCDA");
        x.worth(2, 3, 10);
        best(x, 15, 19, "CBDA");
        best(x, 63, 19, "CBDAEF");
        x.rule(3);
        best(x, 15, 19, "ACBD");
        x.rule(0);
        Due.write(x, "H");
        best(x, 3, 0, "AB");
        x.worth(1, 2, 1);
        best(x, 3, 1, "BA");
        Due.write(x, "HGFE");
        best(x, 15, 0, "ABCD");
        x.worth(3, 0, 99);
        Due.write(x, "EFG");
        best(x, 15, 99, "DABC");
    }
}
