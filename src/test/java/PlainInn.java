import java.math.BigInteger;
import java.util.ArrayList;
import java.util.Arrays;
import java.util.HashMap;
import java.util.List;
import java.util.Map;

/**
 * The document once more, slowly: every DAY is a text that is replayed from its beginning, times are kept
 * instead of orders, and what asks for all ways tries them all. It is written apart from the class, so that
 * the two can be held against one another.
 */
final class PlainInn {
    static final int NONE = -6, UNKNOWN = -1, OUTSIDE = -2, STATE = -3, FULL = -4, NO = -5;
    static final long LOST = -1000000000000000000L;

    int beds = 4;
    int law = 0;
    int[][] worths = new int[8][8];
    List<int[]> sights = new ArrayList<>();
    String pad = "";
    final Object[][] images = new Object[2][];

    /** What a DAY has come to. */
    private final class Replay {
        final int byLaw;
        final Map<Integer, Integer> sleepers = new HashMap<>();
        final Map<Integer, Integer> leftAt = new HashMap<>();
        final List<Integer> yard = new ArrayList<>();
        final List<int[]> takings = new ArrayList<>();
        final List<Map<Integer, Integer>> nights = new ArrayList<>();
        int clock = 0;
        int strangers = 100;
        int failed = NONE;
        int why = NONE;

        Replay(int byLaw) {
            this.byLaw = byLaw;
            for (int b = 0; b < beds; b++) {
                leftAt.put(b, clock++);
            }
        }

        Replay live(String text) {
            for (int k = 0; k < text.length() && failed == NONE; k++) {
                char c = text.charAt(k);
                if (c == '.') {
                    nights.add(new HashMap<>(sleepers));
                } else if (c >= 'A' && c <= 'H') {
                    if (there(c - 'A')) {
                        failed = k;
                        why = 1;
                    } else {
                        come(c - 'A');
                    }
                } else if (there(c - 'a')) {
                    go(c - 'a');
                } else {
                    failed = k;
                    why = 2;
                }
            }
            return this;
        }

        boolean there(int guest) {
            return sleepers.containsValue(guest) || yard.contains(guest);
        }

        void come(int guest) {
            int chosen = -1;
            for (int b : leftAt.keySet()) {
                if (chosen == -1 || before(guest, b, chosen)) {
                    chosen = b;
                }
            }
            if (chosen == -1) {
                yard.add(guest);
            } else {
                leftAt.remove(chosen);
                take(chosen, guest);
            }
        }

        boolean before(int guest, int b, int other) {
            boolean later = leftAt.get(b) > leftAt.get(other);
            if (byLaw == 0) {
                return later;
            }
            if (byLaw == 1) {
                return !later;
            }
            if (byLaw == 2) {
                return b < other;
            }
            int worth = guest < 8 ? worths[guest][b] : 0;
            int otherWorth = guest < 8 ? worths[guest][other] : 0;
            return worth != otherWorth ? worth > otherWorth : later;
        }

        void stranger() {
            come(strangers++);
        }

        void take(int b, int guest) {
            sleepers.put(b, guest);
            takings.add(new int[] {b, guest});
        }

        void go(int guest) {
            if (yard.remove((Integer) guest)) {
                return;
            }
            int b = bedOf(guest);
            sleepers.remove(b);
            if (yard.isEmpty()) {
                leftAt.put(b, clock++);
            } else {
                take(b, yard.remove(0));
            }
        }

        int bedOf(int guest) {
            for (int b : sleepers.keySet()) {
                if (sleepers.get(b) == guest) {
                    return b;
                }
            }
            return NONE;
        }

        List<Integer> empties() {
            List<Integer> all = new ArrayList<>(leftAt.keySet());
            all.sort((a, b) -> leftAt.get(b) - leftAt.get(a));
            return all;
        }

        int used(int b) {
            return (int) takings.stream().filter(t -> t[0] == b).count();
        }

        int sheets(int b) {
            int count = 0;
            int last = -1;
            for (int[] t : takings) {
                if (t[0] == b) {
                    count += t[1] == last ? 0 : 1;
                    last = t[1];
                }
            }
            return count;
        }

        int slept(int b) {
            return (int) nights.stream().filter(night -> night.containsKey(b)).count();
        }

        /** GUESTS below 8, BEDS from 8 on. */
        boolean[] fleas(int first) {
            boolean[] has = new boolean[16];
            has[first] = true;
            for (Map<Integer, Integer> night : nights) {
                for (Map.Entry<Integer, Integer> e : night.entrySet()) {
                    boolean some = has[8 + e.getKey()] || has[e.getValue()];
                    has[8 + e.getKey()] = some;
                    has[e.getValue()] = some;
                }
            }
            return has;
        }

        int worthOfAll(String guests) {
            int sum = 0;
            for (char c : guests.toCharArray()) {
                int b = bedOf(c - 'A');
                sum += b == NONE ? 0 : worths[c - 'A'][b];
            }
            return sum;
        }
    }

    private Replay replay(String text) {
        return new Replay(law).live(text);
    }

    private boolean noGuest(int guest) {
        return guest < 0 || guest > 7;
    }

    private boolean noBed(int bed) {
        return bed < 0 || bed >= beds;
    }

    private int refusal(String part) {
        if (fault() != NONE) {
            return NO;
        }
        if (part.contains("?")) {
            return STATE;
        }
        return replay(part).failed == NONE ? 0 : NO;
    }

    private boolean noEvents(int events) {
        return events < -1 || events > pad.length();
    }

    private String part(int events) {
        return events == -1 ? pad : pad.substring(0, events);
    }

    int beds(int n) {
        if (n < 2 || n > 8) {
            return OUTSIDE;
        }
        int was = beds;
        beds = n;
        worths = new int[8][8];
        sights = new ArrayList<>();
        return was;
    }

    int worth(int guest, int bed, int v) {
        if (noGuest(guest) || noBed(bed)) {
            return UNKNOWN;
        }
        if (v < 0 || v > 99) {
            return OUTSIDE;
        }
        int was = worths[guest][bed];
        worths[guest][bed] = v;
        return was;
    }

    int rule(int v) {
        if (v < 0 || v > 3) {
            return OUTSIDE;
        }
        int was = law;
        law = v;
        return was;
    }

    int say(int sign) {
        if (sign < 33 || sign > 126) {
            return OUTSIDE;
        }
        if (pad.length() == 48) {
            return FULL;
        }
        pad += (char) sign;
        return pad.length();
    }

    int wipe() {
        int was = pad.length();
        pad = "";
        return was;
    }

    int fault() {
        int untold = 0;
        for (int k = 0; k < pad.length(); k++) {
            char c = pad.charAt(k);
            untold += c == '?' ? 1 : 0;
            if (!"ABCDEFGHabcdefgh?.".contains("" + c) || untold == 4) {
                return k;
            }
        }
        return NONE;
    }

    int judge(int what) {
        if (what != 0 && what != 1) {
            return OUTSIDE;
        }
        if (fault() != NONE) {
            return NO;
        }
        if (pad.contains("?")) {
            return STATE;
        }
        Replay r = replay(pad);
        return what == 0 ? r.failed : r.why;
    }

    int bed(int guest, int events) {
        if (noGuest(guest)) {
            return UNKNOWN;
        }
        if (noEvents(events)) {
            return OUTSIDE;
        }
        int refusal = refusal(part(events));
        return refusal != 0 ? refusal : replay(part(events)).bedOf(guest);
    }

    int who(int bed, int events) {
        if (noBed(bed)) {
            return UNKNOWN;
        }
        if (noEvents(events)) {
            return OUTSIDE;
        }
        int refusal = refusal(part(events));
        return refusal != 0 ? refusal : replay(part(events)).sleepers.getOrDefault(bed, NONE);
    }

    int left(int events, int i) {
        if (noEvents(events)) {
            return OUTSIDE;
        }
        int refusal = refusal(part(events));
        if (refusal != 0) {
            return refusal;
        }
        Replay r = replay(part(events));
        if (i == -1) {
            return r.yard.size();
        }
        return i < 0 || i >= r.empties().size() ? NONE : r.empties().get(i);
    }

    int slept(int bed, int what) {
        if (noBed(bed)) {
            return UNKNOWN;
        }
        if (what < 0 || what > 2) {
            return OUTSIDE;
        }
        int refusal = refusal(pad);
        if (refusal != 0) {
            return refusal;
        }
        Replay r = replay(pad);
        return what == 0 ? r.slept(bed) : what == 1 ? r.used(bed) : r.sheets(bed);
    }

    int fewest(int what) {
        if (what != 0 && what != 1) {
            return OUTSIDE;
        }
        int refusal = refusal(pad);
        if (refusal != 0) {
            return refusal;
        }
        int[] sums = new int[4];
        for (int l = 0; l < 4; l++) {
            Replay r = new Replay(l).live(pad);
            for (int b = 0; b < beds; b++) {
                sums[l] += r.sheets(b);
            }
        }
        int least = Arrays.stream(sums).min().getAsInt();
        int first = 0;
        while (sums[first] != least) {
            first++;
        }
        return what == 0 ? first : least;
    }

    private boolean isNamed(int guest) {
        return pad.indexOf('A' + guest) >= 0 || pad.indexOf('a' + guest) >= 0;
    }

    private int refusalOfComing(int what) {
        if (what != 0 && what != 1) {
            return OUTSIDE;
        }
        int refusal = refusal(pad);
        return refusal != 0 ? refusal : pad.length() == 48 ? FULL : 0;
    }

    private int[] bedsByPlace(int guest) {
        int[] all = new int[pad.length() + 1];
        for (int k = 0; k <= pad.length(); k++) {
            all[k] = replay(pad.substring(0, k) + (char) ('A' + guest) + pad.substring(k)).bedOf(guest);
        }
        return all;
    }

    int when(int guest, int bed, int what) {
        if (noGuest(guest) || noBed(bed) || isNamed(guest)) {
            return UNKNOWN;
        }
        int refusal = refusalOfComing(what);
        if (refusal != 0) {
            return refusal;
        }
        List<Integer> places = new ArrayList<>();
        int[] all = bedsByPlace(guest);
        for (int k = 0; k < all.length; k++) {
            if (all[k] == bed) {
                places.add(k);
            }
        }
        return what == 0 ? places.size() : places.isEmpty() ? NONE : places.get(0);
    }

    int best(int guest, int what) {
        if (noGuest(guest) || isNamed(guest)) {
            return UNKNOWN;
        }
        int refusal = refusalOfComing(what);
        if (refusal != 0) {
            return refusal;
        }
        int[] all = bedsByPlace(guest);
        int[] worth = Arrays.stream(all).map(b -> b == NONE ? -1 : worths[guest][b]).toArray();
        int most = Arrays.stream(worth).max().getAsInt();
        int first = 0;
        while (worth[first] != most) {
            first++;
        }
        return what == 0 ? first : most;
    }

    int reach(int bed) {
        if (noBed(bed)) {
            return UNKNOWN;
        }
        int refusal = refusal(pad);
        if (refusal != 0) {
            return refusal;
        }
        Replay r = replay(pad);
        int count = 0;
        while (!r.sleepers.containsKey(bed)) {
            r.stranger();
            count++;
        }
        return count;
    }

    private static void orders(String done, String rest, List<String> all) {
        if (rest.isEmpty()) {
            all.add(done);
        }
        for (int k = 0; k < rest.length(); k++) {
            orders(done + rest.charAt(k), rest.substring(0, k) + rest.substring(k + 1), all);
        }
    }

    int party(int set, int i) {
        if (set < 1 || set > 255) {
            return OUTSIDE;
        }
        int refusal = refusal(pad);
        if (refusal != 0) {
            return refusal;
        }
        String guests = "";
        Replay now = replay(pad);
        for (int g = 0; g < 8; g++) {
            if ((set >> g & 1) == 1) {
                guests += (char) ('A' + g);
                if (now.there(g)) {
                    return NO;
                }
            }
        }
        if (guests.length() > 6) {
            return FULL;
        }
        List<String> all = new ArrayList<>();
        orders("", guests, all);
        all.sort(null);
        int most = -1;
        String first = "";
        for (String order : all) {
            int sum = replay(pad + order).worthOfAll(order);
            if (sum > most) {
                most = sum;
                first = order;
            }
        }
        return i == -1 ? most : i < 0 || i >= first.length() ? NONE : first.charAt(i) - 'A';
    }

    private int bits(boolean[] has, int from) {
        int all = 0;
        for (int k = 0; k < 8; k++) {
            all += has[from + k] ? 1 << k : 0;
        }
        return all;
    }

    int fleas(int who, int what) {
        if (who < 0 || who >= 8 + beds) {
            return UNKNOWN;
        }
        if (what != 0 && what != 1) {
            return OUTSIDE;
        }
        int refusal = refusal(pad);
        return refusal != 0 ? refusal : bits(replay(pad).fleas(who), what == 0 ? 0 : 8);
    }

    int brought(int set) {
        if (set < 0 || set > 255) {
            return OUTSIDE;
        }
        int refusal = refusal(pad);
        if (refusal != 0) {
            return refusal;
        }
        boolean[] can = new boolean[8];
        for (int g = 0; g < 8; g++) {
            can[g] = bits(replay(pad).fleas(g), 0) == set;
        }
        return bits(can, 0);
    }

    int seen(int guest, int bed) {
        if (noGuest(guest) || noBed(bed)) {
            return UNKNOWN;
        }
        if (sights.size() == 6) {
            return FULL;
        }
        sights.add(new int[] {guest, bed});
        return sights.size();
    }

    int forget() {
        int were = sights.size();
        sights = new ArrayList<>();
        return were;
    }

    private void ways(String text, String written, List<String> all) {
        int at = text.indexOf('?');
        if (at < 0) {
            Replay r = replay(text);
            if (r.failed == NONE && sights.stream().allMatch(s -> r.bedOf(s[0]) == s[1])) {
                all.add(written);
            }
            return;
        }
        for (char c = 'A'; c <= 'H'; c++) {
            ways(text.substring(0, at) + c + text.substring(at + 1), written + c, all);
        }
    }

    int filled(int i) {
        if (fault() != NONE) {
            return NO;
        }
        List<String> all = new ArrayList<>();
        ways(pad, "", all);
        if (i == -1) {
            return all.size();
        }
        return all.isEmpty() || i < 0 || i >= all.get(0).length() ? NONE : all.get(0).charAt(i) - 'A';
    }

    int could(int i) {
        if (fault() != NONE) {
            return NO;
        }
        long untold = pad.chars().filter(c -> c == '?').count();
        if (i < 0 || i >= untold) {
            return NONE;
        }
        List<String> all = new ArrayList<>();
        ways(pad, "", all);
        int bits = 0;
        for (String way : all) {
            bits |= 1 << (way.charAt(i) - 'A');
        }
        return bits;
    }

    long chance(int bed, int m, int t, int part) {
        if (noBed(bed)) {
            return LOST + UNKNOWN;
        }
        if (m < 0 || m > 8 || t < 0 || t > 10 || part < 0 || part > 1) {
            return LOST + OUTSIDE;
        }
        int refusal = refusal(pad);
        if (refusal != 0) {
            return LOST + refusal;
        }
        BigInteger upper = BigInteger.ZERO;
        BigInteger lower = BigInteger.TEN.pow(m);
        for (int mask = 0; mask < 1 << m; mask++) {
            Replay r = replay(pad);
            BigInteger weight = BigInteger.ONE;
            for (int k = 0; k < m; k++) {
                boolean comes = (mask >> k & 1) == 1;
                weight = weight.multiply(BigInteger.valueOf(comes ? t : 10 - t));
                if (comes) {
                    r.stranger();
                } else if (!r.sleepers.isEmpty()) {
                    r.go(r.sleepers.get(r.sleepers.keySet().stream().min(Integer::compare).get()));
                }
            }
            upper = r.sleepers.containsKey(bed) ? upper.add(weight) : upper;
        }
        BigInteger both = upper.gcd(lower);
        return (part == 0 ? upper : lower).divide(both).longValueExact();
    }

    int year(int seed, int m, int bed) {
        if (noBed(bed)) {
            return UNKNOWN;
        }
        if (seed < 0 || seed > 9999 || m < 1 || m > 99) {
            return OUTSIDE;
        }
        Replay r = new Replay(law);
        long x = seed;
        for (int k = 0; k < m; k++) {
            x = Math.floorMod(75 * x + 74, 65537L);
            int guest = (int) (x % 8);
            if (r.there(guest)) {
                r.go(guest);
            } else {
                r.come(guest);
            }
        }
        return r.used(bed);
    }

    private static int[][] copy(int[][] rows) {
        return Arrays.stream(rows).map(int[]::clone).toArray(int[][]::new);
    }

    int image(int n) {
        if (n < 0 || n > 1) {
            return OUTSIDE;
        }
        images[n] = new Object[] {beds, law, copy(worths), new ArrayList<>(sights)};
        return 1;
    }

    @SuppressWarnings("unchecked")
    int restore(int n) {
        if (n < 0 || n > 1) {
            return OUTSIDE;
        }
        if (images[n] == null) {
            return STATE;
        }
        beds = (Integer) images[n][0];
        law = (Integer) images[n][1];
        worths = copy((int[][]) images[n][2]);
        sights = new ArrayList<>((List<int[]>) images[n][3]);
        return 1;
    }

    int told(int what) {
        if (what >= 0 && what <= 3) {
            return what == 0 ? pad.length() : what == 1 ? beds : what == 2 ? law : sights.size();
        }
        for (int guest = 0; guest < 8; guest++) {
            for (int bed = 0; bed < beds; bed++) {
                if (what == 10 + 10 * guest + bed) {
                    return worths[guest][bed];
                }
            }
        }
        return OUTSIDE;
    }
}
