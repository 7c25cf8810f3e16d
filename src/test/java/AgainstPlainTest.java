/** Long runs of calls, made by drawn numbers that are the same each time, held against PlainInn. */
final class AgainstPlainTest {
    private static final int[] ODD = {Integer.MIN_VALUE, Integer.MIN_VALUE + 1, -1000, -7, -2, -1, 8, 9, 10, 11, 12,
        48, 49, 99, 100, 255, 256, 10000, Integer.MAX_VALUE - 1, Integer.MAX_VALUE};
    private static long state;

    private static int draw(int below) {
        state = state * 6364136223846793005L + 1442695040888963407L;
        return (int) Math.floorMod(state >>> 33, (long) below);
    }

    /** From low to high, at times one beyond, at times far off. */
    private static int near(int low, int high) {
        int kind = draw(60);
        if (kind == 0) {
            return ODD[draw(ODD.length)];
        }
        if (kind == 1) {
            return low - 1;
        }
        if (kind == 2) {
            return high + 1;
        }
        return low + draw(high - low + 1);
    }

    /** Mostly days that can be, so that not all is refused. */
    private static String drawDay(boolean withUntold) {
        int length = draw(3) == 0 ? draw(50) : draw(14);
        StringBuilder day = new StringBuilder();
        int there = 0;
        int untold = 0;
        int circle = 2 + draw(7);
        for (int k = 0; k < length && day.length() < 48; k++) {
            int kind = draw(10);
            int guest = draw(circle);
            if (kind < 2) {
                day.append('.');
            } else if (withUntold && kind == 2 && untold < 3) {
                day.append('?');
                untold++;
            } else if (draw(900) == 0) {
                day.append((char) (33 + draw(94)));
            } else if (draw(500) == 0) {
                day.append((char) ('A' + guest));
            } else if ((there >> guest & 1) == 0) {
                day.append((char) ('A' + guest));
                there |= 1 << guest;
            } else {
                day.append((char) ('a' + guest));
                there &= ~(1 << guest);
            }
        }
        return day.toString();
    }

    private final WarmBeds real = new WarmBeds();
    private final PlainInn plain = new PlainInn();
    private final StringBuilder told = new StringBuilder();
    private int calls = 0;

    private void due(String name, long got, long want, int... args) {
        calls++;
        StringBuilder call = new StringBuilder(name).append('(');
        for (int k = 0; k < args.length; k++) {
            call.append(k == 0 ? "" : ", ").append(args[k]);
        }
        call.append(')');
        if (got != want) {
            System.out.println("beds " + plain.beds + " law " + plain.law + " pad " + plain.pad);
        }
        Due.is(call.toString(), got, want);
    }

    private void write(String day) {
        due("wipe", real.wipe(), plain.wipe());
        for (char c : day.toCharArray()) {
            due("say", real.say(c), plain.say(c), c);
        }
    }

    private void furnish() {
        int n = near(2, 8);
        due("beds", real.beds(n), plain.beds(n), n);
        int many = draw(20);
        for (int k = 0; k < many; k++) {
            int guest = near(0, 7);
            int bed = near(0, plain.beds - 1);
            int v = draw(2) == 0 ? near(0, 99) : draw(4);
            due("worth", real.worth(guest, bed, v), plain.worth(guest, bed, v), guest, bed, v);
        }
    }

    private void ask() {
        int guest = near(0, 7);
        int bed = near(0, plain.beds - 1);
        int events = near(-1, plain.pad.length());
        int either = near(0, 1);
        int i = near(-1, 3 + draw(6));
        int set = draw(2) == 0 ? near(0, 255) : 1 << draw(8) | 1 << draw(8) | 1 << draw(8);
        int topic = plain.pad.contains("?") && draw(2) == 0 ? 16 + draw(3) : draw(25);
        switch (topic) {
            case 0 -> due("fault", real.fault(), plain.fault());
            case 1 -> due("judge", real.judge(either), plain.judge(either), either);
            case 2 -> due("bed", real.bed(guest, events), plain.bed(guest, events), guest, events);
            case 3 -> due("who", real.who(bed, events), plain.who(bed, events), bed, events);
            case 4, 5 -> due("left", real.left(events, i), plain.left(events, i), events, i);
            case 6, 7 -> {
                int what = near(0, 2);
                due("slept", real.slept(bed, what), plain.slept(bed, what), bed, what);
            }
            case 8 -> due("fewest", real.fewest(either), plain.fewest(either), either);
            case 9, 10 ->
                due("when", real.when(guest, bed, either), plain.when(guest, bed, either), guest, bed, either);
            case 11 -> due("best", real.best(guest, either), plain.best(guest, either), guest, either);
            case 12 -> due("reach", real.reach(bed), plain.reach(bed), bed);
            case 13 -> due("party", real.party(set, i), plain.party(set, i), set, i);
            case 14 -> {
                int who = near(0, 7 + plain.beds);
                due("fleas", real.fleas(who, either), plain.fleas(who, either), who, either);
            }
            case 15 -> {
                int from = near(0, 7);
                int reached = plain.fleas(from, 0);
                int asked = draw(3) == 0 || reached < 0 ? set : reached;
                due("brought", real.brought(asked), plain.brought(asked), asked);
            }
            case 16 -> {
                int sleeper = plain.who(bed, -1);
                int seen = sleeper >= 0 && draw(4) > 0 ? sleeper : guest;
                due("seen", real.seen(seen, bed), plain.seen(seen, bed), seen, bed);
            }
            case 17 -> due("filled", real.filled(i), plain.filled(i), i);
            case 18 -> due("could", real.could(i), plain.could(i), i);
            case 19 -> {
                int m = near(0, draw(6) == 0 ? 8 : 4);
                int t = near(0, 10);
                due("chance", real.chance(bed, m, t, either), plain.chance(bed, m, t, either), bed, m, t, either);
            }
            case 20 -> {
                int seed = near(0, 9999);
                int m = near(1, 99);
                due("year", real.year(seed, m, bed), plain.year(seed, m, bed), seed, m, bed);
            }
            case 21 -> due("image", real.image(either), plain.image(either), either);
            case 22 -> due("restore", real.restore(either), plain.restore(either), either);
            case 23 -> {
                int what = near(0, 88);
                due("told", real.told(what), plain.told(what), what);
            }
            default -> {
                int v = near(0, 3);
                due("rule", real.rule(v), plain.rule(v), v);
            }
        }
        if (draw(12) == 0) {
            due("forget", real.forget(), plain.forget());
        }
        if (draw(90) == 0) {
            int sign = near(33, 126);
            due("say", real.say(sign), plain.say(sign), sign);
        }
    }

    private void run() {
        while (calls < 440) {
            if (draw(6) == 0) {
                furnish();
            }
            write(drawDay(draw(4) == 0));
            int many = 1 + draw(40);
            for (int k = 0; k < many && calls < 440; k++) {
                ask();
            }
        }
    }

    public static void main(String[] args) {
        int runs = args.length > 0 ? Integer.parseInt(args[0]) : 300;
        for (int seed = 0; seed < runs; seed++) {
            state = seed * 7919L + 1;
            new AgainstPlainTest().run();
        }
        Due.end();
    }
}
