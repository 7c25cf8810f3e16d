/**
 * An inn at which whoever comes is put into the bed that was left last.
 * The promises are told in ../shared/DOC.md; the words of that document are used here.
 */
public final class WarmBeds {
    public static final int NONE = -6, UNKNOWN = -1, OUTSIDE = -2, STATE = -3, FULL = -4, NO = -5;
    public static final long LOST = -1000000000000000000L;

    private static final int GUESTS = 8, FEWEST_BEDS = 2, MOST_BEDS = 8, BEDS_AT_FIRST = 4, MOST_WORTH = 99;
    private static final int LEFT_LAST = 0, LEFT_FIRST = 1, LEAST_NUMBER = 2, LAWS = 4;
    private static final int MOST_SIGNS = 48, FIRST_SIGN = 33, LAST_SIGN = 126;
    private static final int MOST_UNTOLD = 3, MOST_SIGHTS = 6, MOST_PARTY = 6, MOST_DRAWS = 8, TENTHS = 10;
    private static final int MOST_SEED = 9999, MOST_YEAR = 99, ALL_GUESTS = 255;
    private static final int COMES_TWICE = 1, NOT_THERE = 2;
    private static final int FINE = 0, NOBODY = -1, NOWHERE = -1, ALL = -1;
    /** Strangers need no numbers of their own: nothing that is asked tells one from another. */
    private static final int STRANGER = GUESTS;

    private final House house = new House();
    private final House imageZero = new House();
    private final House imageOne = new House();
    private final Day day = new Day();
    private final Party company = new Party();
    private final Guesses guesses = new Guesses();
    private final Inn inn;
    /** Where a GUEST is at last who comes at each place; with 48 EVENTS nobody may come. */
    private final int[] bedsByPlace = new int[MOST_SIGNS];

    public WarmBeds() {
        Inn made = new Inn(house, null);
        for (int k = 0; k < MOST_DRAWS; k++) {
            made = new Inn(house, made);
        }
        inn = made;
    }

    // ---- 1 beds, days

    public int beds(int n) {
        if (n < FEWEST_BEDS || n > MOST_BEDS) {
            return OUTSIDE;
        }
        int was = house.beds;
        house.furnish(n);
        return was;
    }

    public int worth(int guest, int bed, int v) {
        if (!isGuest(guest) || !isBed(bed)) {
            return UNKNOWN;
        }
        if (v < 0 || v > MOST_WORTH) {
            return OUTSIDE;
        }
        int was = house.worthOf(guest, bed);
        house.setWorth(guest, bed, v);
        return was;
    }

    public int rule(int v) {
        if (v < 0 || v >= LAWS) {
            return OUTSIDE;
        }
        int was = house.law;
        house.law = v;
        return was;
    }

    public int say(int sign) {
        if (sign < FIRST_SIGN || sign > LAST_SIGN) {
            return OUTSIDE;
        }
        if (day.isFull()) {
            return FULL;
        }
        day.write(sign);
        return day.length;
    }

    public int wipe() {
        int was = day.length;
        day.length = 0;
        return was;
    }

    public int fault() {
        return day.firstFault();
    }

    public int judge(int what) {
        if (!isEither(what)) {
            return OUTSIDE;
        }
        if (day.firstFault() != NONE) {
            return NO;
        }
        if (day.isUntold(day.length)) {
            return STATE;
        }
        inn.open(house.law);
        int place = inn.live(day, 0, day.length);
        if (place == NONE) {
            return NONE;
        }
        return what == 0 ? place : inn.whyNot(day.signAt(place));
    }

    // ---- 2 nights

    public int bed(int guest, int events) {
        if (!isGuest(guest)) {
            return UNKNOWN;
        }
        if (!isCountOfEvents(events)) {
            return OUTSIDE;
        }
        int refusal = liveThrough(events);
        if (refusal != FINE) {
            return refusal;
        }
        int bed = inn.bedOf(guest);
        return bed == NOWHERE ? NONE : bed;
    }

    public int who(int bed, int events) {
        if (!isBed(bed)) {
            return UNKNOWN;
        }
        if (!isCountOfEvents(events)) {
            return OUTSIDE;
        }
        int refusal = liveThrough(events);
        if (refusal != FINE) {
            return refusal;
        }
        int guest = inn.sleeperOf(bed);
        return guest == NOBODY ? NONE : guest;
    }

    public int left(int events, int i) {
        if (!isCountOfEvents(events)) {
            return OUTSIDE;
        }
        int refusal = liveThrough(events);
        if (refusal != FINE) {
            return refusal;
        }
        return i == -1 ? inn.waiting : inn.emptyBed(i);
    }

    public int slept(int bed, int what) {
        if (!isBed(bed)) {
            return UNKNOWN;
        }
        if (what < 0 || what > 2) {
            return OUTSIDE;
        }
        int refusal = liveThrough(ALL);
        return refusal != FINE ? refusal : inn.countOf(bed, what);
    }

    public int fewest(int what) {
        if (!isEither(what)) {
            return OUTSIDE;
        }
        int refusal = liveThrough(ALL);
        if (refusal != FINE) {
            return refusal;
        }
        int best = 0;
        int least = sheetsBy(0);
        for (int law = 1; law < LAWS; law++) {
            int sheets = sheetsBy(law);
            if (sheets < least) {
                best = law;
                least = sheets;
            }
        }
        return what == 0 ? best : least;
    }

    // ---- 3 when to come

    public int when(int guest, int bed, int what) {
        if (!isGuest(guest) || !isBed(bed) || day.names(guest)) {
            return UNKNOWN;
        }
        int refusal = refusalOfComing(what);
        if (refusal != FINE) {
            return refusal;
        }
        tryAllPlaces(guest);
        int places = 0;
        int first = NONE;
        for (int place = 0; place <= day.length; place++) {
            if (bedComingAt(place) == bed) {
                first = places == 0 ? place : first;
                places++;
            }
        }
        return what == 0 ? places : first;
    }

    public int best(int guest, int what) {
        if (!isGuest(guest) || day.names(guest)) {
            return UNKNOWN;
        }
        int refusal = refusalOfComing(what);
        if (refusal != FINE) {
            return refusal;
        }
        tryAllPlaces(guest);
        int best = 0;
        int most = worthComingAt(guest, 0);
        for (int place = 1; place <= day.length; place++) {
            int worth = worthComingAt(guest, place);
            if (worth > most) {
                best = place;
                most = worth;
            }
        }
        return what == 0 ? best : most;
    }

    public int reach(int bed) {
        if (!isBed(bed)) {
            return UNKNOWN;
        }
        int refusal = liveThrough(ALL);
        if (refusal != FINE) {
            return refusal;
        }
        int strangers = 0;
        while (strangers < MOST_BEDS && inn.sleeperOf(bed) == NOBODY) {
            inn.takeIn(STRANGER);
            strangers++;
        }
        return strangers;
    }

    public int party(int set, int i) {
        if (set < 1 || set > ALL_GUESTS) {
            return OUTSIDE;
        }
        int refusal = liveThrough(ALL);
        if (refusal != FINE) {
            return refusal;
        }
        if ((set & inn.there) != 0) {
            return NO;
        }
        if (Integer.bitCount(set) > MOST_PARTY) {
            return FULL;
        }
        company.order(inn, set);
        return i == -1 ? company.most : company.guestAt(i);
    }

    // ---- 4 fleas, what is not told

    public int fleas(int who, int what) {
        if (who < 0 || who >= GUESTS + house.beds) {
            return UNKNOWN;
        }
        if (!isEither(what)) {
            return OUTSIDE;
        }
        int refusal = liveThrough(ALL);
        if (refusal != FINE) {
            return refusal;
        }
        spreadFrom(who);
        return what == 0 ? inn.guestsWithFleas : inn.bedsWithFleas;
    }

    public int brought(int set) {
        if (set < 0 || set > ALL_GUESTS) {
            return OUTSIDE;
        }
        int refusal = liveThrough(ALL);
        if (refusal != FINE) {
            return refusal;
        }
        int suspects = 0;
        for (int guest = 0; guest < GUESTS; guest++) {
            spreadFrom(guest);
            if (inn.guestsWithFleas == set) {
                suspects |= 1 << guest;
            }
        }
        return suspects;
    }

    public int seen(int guest, int bed) {
        if (!isGuest(guest) || !isBed(bed)) {
            return UNKNOWN;
        }
        if (house.sights >= MOST_SIGHTS) {
            return FULL;
        }
        house.addSight(guest, bed);
        return house.sights;
    }

    public int forget() {
        int were = house.sights;
        house.sights = 0;
        return were;
    }

    public int filled(int i) {
        if (day.firstFault() != NONE) {
            return NO;
        }
        guesses.search(inn, day, house);
        return i == -1 ? guesses.ways : guesses.firstAt(i);
    }

    public int could(int i) {
        if (day.firstFault() != NONE) {
            return NO;
        }
        guesses.search(inn, day, house);
        return guesses.suspectsAt(i);
    }

    public long chance(int bed, int m, int t, int part) {
        if (!isBed(bed)) {
            return LOST + UNKNOWN;
        }
        if (m < 0 || m > MOST_DRAWS || t < 0 || t > TENTHS || !isEither(part)) {
            return LOST + OUTSIDE;
        }
        int refusal = liveThrough(ALL);
        if (refusal != FINE) {
            return LOST + refusal;
        }
        return partInLowestTerms(weightOf(inn, bed, m, t), m, part);
    }

    public int year(int seed, int m, int bed) {
        if (!isBed(bed)) {
            return UNKNOWN;
        }
        if (seed < 0 || seed > MOST_SEED || m < 1 || m > MOST_YEAR) {
            return OUTSIDE;
        }
        inn.open(house.law);
        int x = seed;
        for (int event = 0; event < m; event++) {
            x = (75 * x + 74) % 65537;
            int guest = x % GUESTS;
            if (inn.isThere(guest)) {
                inn.letGo(guest);
            } else {
                inn.takeIn(guest);
            }
        }
        return inn.timesUsed(bed);
    }

    public int image(int n) {
        if (!isEither(n)) {
            return OUTSIDE;
        }
        House kept = n == 0 ? imageZero : imageOne;
        kept.copy(house);
        kept.isKept = true;
        return 1;
    }

    public int restore(int n) {
        if (!isEither(n)) {
            return OUTSIDE;
        }
        House kept = n == 0 ? imageZero : imageOne;
        if (!kept.isKept) {
            return STATE;
        }
        house.copy(kept);
        return 1;
    }

    public int told(int what) {
        switch (what) {
            case 0:
                return day.length;
            case 1:
                return house.beds;
            case 2:
                return house.law;
            case 3:
                return house.sights;
            default:
                return worthTold(what);
        }
    }

    // ---- what several calls ask

    private static boolean isGuest(int guest) {
        return guest >= 0 && guest < GUESTS;
    }

    private boolean isBed(int bed) {
        return bed >= 0 && bed < house.beds;
    }

    private static boolean isEither(int number) {
        return number == 0 || number == 1;
    }

    private boolean isCountOfEvents(int events) {
        return events >= ALL && events <= day.length;
    }

    /** Leaves the inn as it stands behind the EVENTS, or says why it can not. */
    private int liveThrough(int events) {
        int count = events == ALL ? day.length : events;
        if (day.firstFault() != NONE) {
            return NO;
        }
        if (day.isUntold(count)) {
            return STATE;
        }
        inn.open(house.law);
        return inn.live(day, 0, count) == NONE ? FINE : NO;
    }

    private int sheetsBy(int law) {
        inn.open(law);
        inn.live(day, 0, day.length);
        return inn.allSheets();
    }

    private int refusalOfComing(int what) {
        if (!isEither(what)) {
            return OUTSIDE;
        }
        int refusal = liveThrough(ALL);
        if (refusal != FINE) {
            return refusal;
        }
        return day.isFull() ? FULL : FINE;
    }

    private void tryAllPlaces(int guest) {
        Inn branch = inn.deeper;
        inn.open(house.law);
        for (int place = 0; branch != null && place <= day.length && place < MOST_SIGNS; place++) {
            branch.standAs(inn);
            branch.takeIn(guest);
            branch.live(day, place, day.length);
            bedsByPlace[place] = branch.bedOf(guest);
            inn.live(day, place, place + 1);
        }
    }

    private int bedComingAt(int place) {
        return place >= 0 && place < MOST_SIGNS ? bedsByPlace[place] : NOWHERE;
    }

    private int worthComingAt(int guest, int place) {
        int bed = bedComingAt(place);
        return bed == NOWHERE ? -1 : house.worthOf(guest, bed);
    }

    private void spreadFrom(int who) {
        inn.open(house.law);
        inn.infest(who);
        inn.live(day, 0, day.length);
    }

    /** Of 10 to the power of draws ways, each as likely as any other, those behind which the BED is taken. */
    private static long weightOf(Inn at, int bed, int draws, int tenths) {
        if (draws <= 0) {
            return at.sleeperOf(bed) == NOBODY ? 0 : 1;
        }
        Inn next = at.deeper;
        if (next == null) {
            return 0;
        }
        next.standAs(at);
        next.takeIn(STRANGER);
        long coming = weightOf(next, bed, draws - 1, tenths);
        next.standAs(at);
        next.emptyLeastBed();
        long going = weightOf(next, bed, draws - 1, tenths);
        return tenths * coming + (TENTHS - tenths) * going;
    }

    /** The lower number has no other primes than 2 and 5, each at most once for each draw. */
    private static long partInLowestTerms(long weight, int draws, int part) {
        long upper = weight;
        long lower = 1;
        for (int k = 0; k < draws; k++) {
            lower *= TENTHS;
        }
        for (int k = 0; k < draws; k++) {
            if (upper % 2 == 0 && lower % 2 == 0) {
                upper /= 2;
                lower /= 2;
            }
            if (upper % 5 == 0 && lower % 5 == 0) {
                upper /= 5;
                lower /= 5;
            }
        }
        return part == 0 ? upper : lower;
    }

    private int worthTold(int what) {
        if (what < 10 || what > 87) {
            return OUTSIDE;
        }
        int guest = what / 10 - 1;
        int bed = what % 10;
        return isBed(bed) ? house.worthOf(guest, bed) : OUTSIDE;
    }

    /** All that an IMAGE keeps. */
    private static final class House {
        private int beds = BEDS_AT_FIRST;
        private int law;
        private int sights;
        private boolean isKept;
        private final int[] worths = new int[GUESTS * MOST_BEDS];
        private final int[] sightGuests = new int[MOST_SIGHTS];
        private final int[] sightBeds = new int[MOST_SIGHTS];

        private void furnish(int n) {
            beds = n;
            sights = 0;
            for (int k = 0; k < worths.length; k++) {
                worths[k] = 0;
            }
        }

        /** Strangers are asked for, too: no BED is worth anything to them. */
        private int worthOf(int guest, int bed) {
            if (guest < 0 || guest >= GUESTS || bed < 0 || bed >= MOST_BEDS) {
                return 0;
            }
            return worths[guest * MOST_BEDS + bed];
        }

        private void setWorth(int guest, int bed, int v) {
            if (isGuest(guest) && bed >= 0 && bed < MOST_BEDS) {
                worths[guest * MOST_BEDS + bed] = v;
            }
        }

        private void addSight(int guest, int bed) {
            if (sights >= 0 && sights < MOST_SIGHTS) {
                sightGuests[sights] = guest;
                sightBeds[sights] = bed;
                sights++;
            }
        }

        private boolean allSightsHold(Inn inn) {
            for (int k = 0; k < MOST_SIGHTS && k < sights; k++) {
                if (inn.sleeperOf(sightBeds[k]) != sightGuests[k]) {
                    return false;
                }
            }
            return true;
        }

        private void copy(House other) {
            beds = other.beds;
            law = other.law;
            sights = other.sights;
            System.arraycopy(other.worths, 0, worths, 0, worths.length);
            System.arraycopy(other.sightGuests, 0, sightGuests, 0, MOST_SIGHTS);
            System.arraycopy(other.sightBeds, 0, sightBeds, 0, MOST_SIGHTS);
        }
    }

    /** The text on the PAD. */
    private static final class Day {
        private int length;
        private final int[] signs = new int[MOST_SIGNS];

        private boolean isFull() {
            return length >= MOST_SIGNS;
        }

        private void write(int sign) {
            if (length >= 0 && length < MOST_SIGNS) {
                signs[length] = sign;
                length++;
            }
        }

        private int signAt(int place) {
            return place >= 0 && place < length && place < MOST_SIGNS ? signs[place] : 0;
        }

        private int firstFault() {
            int untold = 0;
            for (int place = 0; place < length; place++) {
                int sign = signAt(place);
                if (sign == '?') {
                    untold++;
                } else if (sign != '.' && !isComing(sign) && !isGoing(sign)) {
                    return place;
                }
                if (untold > MOST_UNTOLD) {
                    return place;
                }
            }
            return NONE;
        }

        private boolean isUntold(int events) {
            return nextUntold(0) < events;
        }

        /** Behind the last ? it is the length. */
        private int nextUntold(int from) {
            for (int place = from; place < length; place++) {
                if (signAt(place) == '?') {
                    return place;
                }
            }
            return length;
        }

        private boolean names(int guest) {
            for (int place = 0; place < length; place++) {
                int sign = signAt(place);
                if (sign == 'A' + guest || sign == 'a' + guest) {
                    return true;
                }
            }
            return false;
        }

        private static boolean isComing(int sign) {
            return sign >= 'A' && sign <= 'H';
        }

        private static boolean isGoing(int sign) {
            return sign >= 'a' && sign <= 'h';
        }
    }

    /** Who is where at some moment of a DAY, and what was counted up to it. */
    private static final class Inn {
        private final House house;
        /** Searches that branch try each branch one inn deeper, so that none is made in a call. */
        private final Inn deeper;
        private int law;
        private int there;
        private final int[] sleepers = new int[MOST_BEDS];
        private final int[] empty = new int[MOST_BEDS];
        private int empties;
        private final int[] yard = new int[GUESTS + MOST_DRAWS];
        private int waiting;
        private final int[] nights = new int[MOST_BEDS];
        private final int[] used = new int[MOST_BEDS];
        private final int[] sheets = new int[MOST_BEDS];
        private final int[] lastOnes = new int[MOST_BEDS];
        private int guestsWithFleas;
        private int bedsWithFleas;
        private boolean isCounting;

        private Inn(House house, Inn deeper) {
            this.house = house;
            this.deeper = deeper;
        }

        private void open(int byLaw) {
            law = byLaw;
            there = 0;
            empties = 0;
            waiting = 0;
            guestsWithFleas = 0;
            bedsWithFleas = 0;
            isCounting = true;
            for (int bed = 0; bed < MOST_BEDS; bed++) {
                sleepers[bed] = NOBODY;
                lastOnes[bed] = NOBODY;
                nights[bed] = 0;
                used[bed] = 0;
                sheets[bed] = 0;
            }
            for (int bed = 0; bed < house.beds; bed++) {
                leaveEmpty(bed);
            }
        }

        /** Counts and fleas stay behind: no search that branches asks for them. */
        private void standAs(Inn other) {
            isCounting = false;
            law = other.law;
            there = other.there;
            empties = other.empties;
            waiting = other.waiting;
            System.arraycopy(other.sleepers, 0, sleepers, 0, MOST_BEDS);
            System.arraycopy(other.empty, 0, empty, 0, MOST_BEDS);
            System.arraycopy(other.yard, 0, yard, 0, yard.length);
        }

        /** The place of the first EVENT that can not be, at which it stops, or NONE. */
        private int live(Day day, int from, int to) {
            for (int place = from; place < to; place++) {
                int sign = day.signAt(place);
                if (whyNot(sign) != FINE) {
                    return place;
                }
                if (Day.isComing(sign)) {
                    takeIn(sign - 'A');
                } else if (Day.isGoing(sign)) {
                    letGo(sign - 'a');
                } else if (sign == '.' && isCounting) {
                    passNight();
                }
            }
            return NONE;
        }

        private int whyNot(int sign) {
            if (Day.isComing(sign) && isThere(sign - 'A')) {
                return COMES_TWICE;
            }
            if (Day.isGoing(sign) && !isThere(sign - 'a')) {
                return NOT_THERE;
            }
            return FINE;
        }

        private void takeIn(int guest) {
            there |= bitOf(guest);
            int k = choice(guest);
            if (k == NOWHERE) {
                waitInYard(guest);
            } else {
                occupy(takeFromEmpty(k), guest);
            }
        }

        private void letGo(int guest) {
            int bed = bedOf(guest);
            if (bed == NOWHERE) {
                there &= ~bitOf(guest);
                leaveYard(guest);
            } else {
                clear(bed);
            }
        }

        private void emptyLeastBed() {
            for (int bed = 0; bed < MOST_BEDS; bed++) {
                if (sleepers[bed] != NOBODY) {
                    clear(bed);
                    return;
                }
            }
        }

        private void clear(int bed) {
            there &= ~bitOf(sleeperOf(bed));
            if (waiting > 0) {
                int guest = yard[0];
                leaveYard(guest);
                occupy(bed, guest);
            } else {
                leaveEmpty(bed);
            }
        }

        private void passNight() {
            for (int bed = 0; bed < MOST_BEDS; bed++) {
                if (sleepers[bed] != NOBODY) {
                    nights[bed]++;
                    shareFleas(bed, sleepers[bed]);
                }
            }
        }

        private void shareFleas(int bed, int guest) {
            if ((guestsWithFleas & bitOf(guest)) != 0 || (bedsWithFleas & 1 << bed) != 0) {
                guestsWithFleas |= bitOf(guest);
                bedsWithFleas |= 1 << bed;
            }
        }

        /** GUESTS by their numbers, BEDS by 8 and theirs. */
        private void infest(int who) {
            if (who < GUESTS) {
                guestsWithFleas |= bitOf(who);
            } else {
                bedsWithFleas |= 1 << (who - GUESTS);
            }
        }

        /** Which of the empty BEDS is had by THE LAW, by its place among them. */
        private int choice(int guest) {
            if (empties == 0) {
                return NOWHERE;
            }
            switch (law) {
                case LEFT_LAST:
                    return empties - 1;
                case LEFT_FIRST:
                    return 0;
                case LEAST_NUMBER:
                    return leastOfEmpty();
                default:
                    return dearestOfEmpty(guest);
            }
        }

        private int leastOfEmpty() {
            int least = 0;
            for (int k = 1; k < MOST_BEDS && k < empties; k++) {
                if (empty[k] < empty[least]) {
                    least = k;
                }
            }
            return least;
        }

        private int dearestOfEmpty(int guest) {
            int dearest = 0;
            for (int k = 1; k < MOST_BEDS && k < empties; k++) {
                if (house.worthOf(guest, empty[k]) >= house.worthOf(guest, empty[dearest])) {
                    dearest = k;
                }
            }
            return dearest;
        }

        private int takeFromEmpty(int k) {
            if (k < 0 || k >= empties || k >= MOST_BEDS) {
                return NOWHERE;
            }
            int bed = empty[k];
            for (int later = k + 1; later < MOST_BEDS && later < empties; later++) {
                empty[later - 1] = empty[later];
            }
            empties--;
            return bed;
        }

        private void occupy(int bed, int guest) {
            if (bed < 0 || bed >= MOST_BEDS) {
                return;
            }
            sleepers[bed] = guest;
            used[bed]++;
            if (lastOnes[bed] != guest) {
                sheets[bed]++;
            }
            lastOnes[bed] = guest;
        }

        private void leaveEmpty(int bed) {
            if (bed < 0 || bed >= MOST_BEDS || empties < 0 || empties >= MOST_BEDS) {
                return;
            }
            sleepers[bed] = NOBODY;
            empty[empties] = bed;
            empties++;
        }

        private void waitInYard(int guest) {
            if (waiting >= 0 && waiting < yard.length) {
                yard[waiting] = guest;
                waiting++;
            }
        }

        /** Of several strangers the one who has waited longest. */
        private void leaveYard(int guest) {
            int kept = 0;
            boolean isGone = false;
            for (int k = 0; k < yard.length && k < waiting; k++) {
                if (!isGone && yard[k] == guest) {
                    isGone = true;
                } else {
                    yard[kept] = yard[k];
                    kept++;
                }
            }
            waiting = kept;
        }

        private static int bitOf(int guest) {
            return guest >= 0 && guest < GUESTS ? 1 << guest : 0;
        }

        private boolean isThere(int guest) {
            return (there & bitOf(guest)) != 0;
        }

        private int bedOf(int guest) {
            for (int bed = 0; bed < MOST_BEDS; bed++) {
                if (sleepers[bed] == guest) {
                    return bed;
                }
            }
            return NOWHERE;
        }

        private int sleeperOf(int bed) {
            return bed >= 0 && bed < MOST_BEDS ? sleepers[bed] : NOBODY;
        }

        /** The one left last first. */
        private int emptyBed(int i) {
            if (i < 0 || i >= empties || empties > MOST_BEDS) {
                return NONE;
            }
            return empty[empties - 1 - i];
        }

        private int timesUsed(int bed) {
            return bed >= 0 && bed < MOST_BEDS ? used[bed] : 0;
        }

        private int countOf(int bed, int what) {
            if (bed < 0 || bed >= MOST_BEDS) {
                return 0;
            }
            switch (what) {
                case 0:
                    return nights[bed];
                case 1:
                    return used[bed];
                default:
                    return sheets[bed];
            }
        }

        private int allSheets() {
            int all = 0;
            for (int bed = 0; bed < MOST_BEDS; bed++) {
                all += sheets[bed];
            }
            return all;
        }
    }

    /** Seeks the order in which GUESTS of a set do best at the door. */
    private static final class Party {
        private int most;
        private int size;
        private final int[] bestOrder = new int[MOST_PARTY];
        private final int[] trial = new int[MOST_PARTY];

        private void order(Inn inn, int set) {
            most = -1;
            size = Integer.bitCount(set);
            letIn(this, inn, set, 0, 0);
        }

        /** Orders are tried by letters, so that only a better one may take the place of an earlier one. */
        private static void letIn(Party party, Inn inn, int set, int at, int worths) {
            if (set == 0) {
                party.keepIfBetter(worths);
                return;
            }
            Inn next = inn.deeper;
            if (next == null || at < 0 || at >= MOST_PARTY) {
                return;
            }
            for (int guest = 0; guest < GUESTS; guest++) {
                if ((set & 1 << guest) != 0) {
                    next.standAs(inn);
                    next.takeIn(guest);
                    party.trial[at] = guest;
                    int worth = next.house.worthOf(guest, next.bedOf(guest));
                    letIn(party, next, set & ~(1 << guest), at + 1, worths + worth);
                }
            }
        }

        private void keepIfBetter(int worths) {
            if (worths > most) {
                most = worths;
                System.arraycopy(trial, 0, bestOrder, 0, MOST_PARTY);
            }
        }

        private int guestAt(int i) {
            return i >= 0 && i < size && i < MOST_PARTY ? bestOrder[i] : NONE;
        }
    }

    /** Seeks all ways to write a GUEST for each ?. */
    private static final class Guesses {
        private int ways;
        private int untold;
        private final int[] trial = new int[MOST_UNTOLD];
        private final int[] first = new int[MOST_UNTOLD];
        private final int[] suspects = new int[MOST_UNTOLD];

        private void search(Inn inn, Day day, House house) {
            ways = 0;
            untold = 0;
            for (int place = 0; place < day.length; place++) {
                untold += day.signAt(place) == '?' ? 1 : 0;
            }
            for (int k = 0; k < MOST_UNTOLD; k++) {
                suspects[k] = 0;
            }
            inn.open(house.law);
            fillFrom(this, inn, day, 0, 0);
        }

        /** GUESTS are tried by letters, so that the first way that is found is the first by letters. */
        private static void fillFrom(Guesses guesses, Inn inn, Day day, int from, int depth) {
            int at = day.nextUntold(from);
            if (inn.live(day, from, at) != NONE) {
                return;
            }
            if (at >= day.length) {
                guesses.keepIfSeen(inn);
                return;
            }
            Inn next = inn.deeper;
            if (next == null || depth < 0 || depth >= MOST_UNTOLD) {
                return;
            }
            for (int guest = 0; guest < GUESTS; guest++) {
                if (!inn.isThere(guest)) {
                    next.standAs(inn);
                    next.takeIn(guest);
                    guesses.trial[depth] = guest;
                    fillFrom(guesses, next, day, at + 1, depth + 1);
                }
            }
        }

        private void keepIfSeen(Inn inn) {
            if (!inn.house.allSightsHold(inn)) {
                return;
            }
            if (ways == 0) {
                System.arraycopy(trial, 0, first, 0, MOST_UNTOLD);
            }
            ways++;
            for (int k = 0; k < MOST_UNTOLD && k < untold; k++) {
                suspects[k] |= 1 << trial[k];
            }
        }

        private boolean isUntold(int i) {
            return i >= 0 && i < untold && i < MOST_UNTOLD;
        }

        private int firstAt(int i) {
            return isUntold(i) && ways > 0 ? first[i] : NONE;
        }

        private int suspectsAt(int i) {
            return isUntold(i) ? suspects[i] : NONE;
        }
    }
}
