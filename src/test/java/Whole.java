/** All that can be asked of an object, as one text: what two objects with the same text are, is the same. */
final class Whole {
    private final WarmBeds x;
    private final StringBuilder text = new StringBuilder();

    private Whole(WarmBeds x) {
        this.x = x;
    }

    /** It takes some 360 calls at most; the PAD is wiped by it, and the IMAGES are restored. */
    static String of(WarmBeds x) {
        Whole whole = new Whole(x);
        whole.askDay();
        whole.askHouse();
        for (int n = 0; n < 2; n++) {
            whole.put("restore " + n, x.restore(n));
            whole.askHouse();
        }
        return whole.text.toString();
    }

    private void put(String what, long answer) {
        text.append(what).append(": ").append(answer).append("; ");
    }

    private void askDay() {
        put("fault", x.fault());
        put("judged", x.judge(0));
        put("why", x.judge(1));
        put("sheets", x.fewest(1));
        put("party", x.party(224, -1));
        for (int guest = 0; guest < 8; guest++) {
            put("bed of " + guest, x.bed(guest, -1));
            put("best of " + guest, x.best(guest, 0));
            put("fleas of " + guest, x.fleas(guest, 0));
        }
        for (int bed = 0; bed < x.told(1); bed++) {
            put("who in " + bed, x.who(bed, -1));
            put("slept in " + bed, x.slept(bed, 0));
            put("reach " + bed, x.reach(bed));
            put("chance of " + bed, x.chance(bed, 2, 3, 0));
            put("year of " + bed, x.year(77, 40, bed));
        }
        for (int events = 0; events <= x.told(0) && events <= 48; events++) {
            put("left behind " + events, x.left(events, 0));
        }
        for (int i = -1; i < 4; i++) {
            put("filled " + i, x.filled(i));
            put("could " + i, x.could(i));
        }
    }

    private void askHouse() {
        put("signs", x.wipe());
        for (int what = 0; what < 4; what++) {
            put("told " + what, x.told(what));
        }
        for (int what = 10; what < 90; what++) {
            if (what % 10 < x.told(1)) {
                put("told " + what, x.told(what));
            }
        }
        Due.write(x, "??");
        put("ways", x.filled(-1));
        put("could be the first", x.could(0));
        put("could be the second", x.could(1));
    }
}
