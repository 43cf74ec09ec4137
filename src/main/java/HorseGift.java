/**
 * Two cities that send each other gifts with things hidden in them. What each call promises stands in DOC.md;
 * a set of things or of gifts is an int whose bit n stands for number n, as in the answers there.
 */
public final class HorseGift {
    public static final int NONE = -1, BAD = -2, NO = -3, FULL = -4;

    /** Where -2 could be mistaken, or a call has an answer of its own beside the four above. */
    private static final int BAD_TEN = -10, REFUSED = -5, NOT_SO_MANY = -5;
    private static final int FAULT_AT_0 = -10, ITEM_0_REFUSED = -1000;

    private static final int MOST_THINGS = 8, MOST_GIFTS = 6, CITIES = 2, HOURS = 6;
    private static final int MOST_UNDONE = 8, MOST_BYTES = 150;

    private static final int DOUBLE = 1, LIVING = 2, LAW = 3, RETURNED = 4, ECHO = 5, KINDS = 6;
    private static final int GATE = 0, EAR = 1, SCALE = 2, MEASURES = 3;
    private static final int MOST_GATE = 30, MOST_EAR = 50, MOST_SCALE = 200;

    private static final int TAKES = 0, REFUSES = 1, OPENS = 2, CHOICES = 3;

    private final War war = new War();
    /** A war beside the true one, so that what is only tried, or is refused half way, changes nothing. */
    private final War trial = new War();
    private final War image0 = new War();
    private final War image1 = new War();
    private boolean kept0 = false;
    private boolean kept1 = false;
    private final Bridge bridge = new Bridge();
    private final Telling text = new Telling();
    private long above = 0;
    private long below = 1;
    private int bads = 0;
    private int noes = 0;
    private int fulls = 0;

    public HorseGift() {
    }

    // ---- a war

    public int thing(int size, int weight, int sound, int harm) {
        return counted(war.addThing(size, weight, sound, harm));
    }

    public int gift(int kind, int city, int empty, int room) {
        return counted(war.addGift(kind, city, empty, room));
    }

    public int put(int thing, int gift) {
        return counted(war.putIn(thing, gift));
    }

    public int out(int thing) {
        return counted(war.takeOut(thing));
    }

    public int city(int city, int what, int n) {
        return counted(war.setMeasure(city, what, n));
    }

    public int watch(int city, int hour, int n) {
        return counted(war.setWatch(city, hour, n));
    }

    public int type(int c) {
        return counted(text.add(c));
    }

    public int clear() {
        return text.makeEmpty();
    }

    public int read() {
        int fault = text.findFault();
        if (fault != NONE) {
            return FAULT_AT_0 - fault;
        }
        trial.renew();
        for (int item = 0; item < text.items; item++) {
            if (tellItem(item) < 0) {
                return ITEM_0_REFUSED - item;
            }
        }
        trial.forget();
        war.copyFrom(trial);
        return text.items;
    }

    // ---- gifts

    public int send(int gift, int hour) {
        if (!war.hasGift(gift) || !isHour(hour)) {
            return refusedAsTen();
        }
        war.remember();
        return war.deliver(gift, hour);
    }

    public int undo() {
        return counted(war.goBack());
    }

    public int of(int gift, int what) {
        if (!war.hasGift(gift)) {
            return counted(BAD);
        }
        int inside = war.inside(gift);
        switch (what) {
            case 0: return war.kind[gift];
            case 1: return war.owner[gift];
            case 2: return war.weighs(gift, inside);
            case 3: return war.sounds(gift, inside);
            case 4: return war.harms(gift, inside);
            case 5: return inside;
            case 6: return war.passes(gift, inside) ? 1 : 0;
            default: return counted(BAD);
        }
    }

    public int about(int city, int what) {
        if (!isCity(city)) {
            return counted(BAD);
        }
        switch (what) {
            case 0: return war.gate[city];
            case 1: return war.ear[city];
            case 2: return war.scale[city];
            case 3: return war.lost[city];
            case 4: return war.giftsOf(city);
            default: return counted(BAD);
        }
    }

    // ---- what to do

    public int hide(int gift, int hour, int what) {
        if (!war.hasGift(gift) || !isHour(hour) || !within(what, 0, 1)) {
            return refusedAsTen();
        }
        int best = Counsel.setThatDoesMost(war, gift, hour);
        if (best == NONE || what == 0) {
            return best;
        }
        return war.loss(gift, best, hour);
    }

    public int wide(int city, int what) {
        if (!isCity(city) || !within(what, 0, 1)) {
            return counted(BAD);
        }
        return what == 0 ? Counsel.leastGate(war, city) : Counsel.leastEar(war, city);
    }

    public int belief(int gift, int c, boolean heard) {
        if (!war.hasGift(gift) || !within(c, 0, 10)) {
            return counted(BAD);
        }
        long all = Counsel.waysHeard(war, gift, c, heard);
        if (all <= 0) {
            return counted(NO);
        }
        keepFraction(Counsel.waysEmpty(war, gift, c, heard), all);
        return 1;
    }

    public int knocks(int gift, int one, int other) {
        int most = (1 << war.things) - 1;
        if (!war.hasGift(gift) || !within(one, 0, most) || !within(other, 0, most)) {
            return counted(BAD);
        }
        int byEar = war.isHeard(gift, one) != war.isHeard(gift, other) ? 1 : 0;
        int byScale = war.isHeavy(gift, one) != war.isHeavy(gift, other) ? 2 : 0;
        return byEar + byScale;
    }

    public int game(int gift, int hour, int what) {
        if (!war.hasGift(gift) || !isHour(hour) || !within(what, 0, 1)) {
            return refusedAsTen();
        }
        return what == 0 ? Counsel.restingPairs(war, gift, hour) : Counsel.firstRestingPair(war, gift, hour);
    }

    public int stand(int gift, int what) {
        if (!war.hasGift(gift) || !within(what, 0, 1)) {
            return counted(BAD);
        }
        int hour = Counsel.hourOfLeastHarm(war, gift);
        return what == 0 ? hour : war.loss(gift, war.inside(gift), hour);
    }

    public int tell(int gift, int n) {
        if (!war.hasGift(gift) || !within(n, 0, 99)) {
            return counted(BAD);
        }
        int was = war.told[gift];
        war.told[gift] = n;
        return was;
    }

    public int sat(int thing, int hour) {
        if (!war.hasThing(thing) || !isHour(hour)) {
            return counted(BAD);
        }
        if (war.in[thing] != NONE) {
            return counted(NO);
        }
        return Counsel.giftsThatFit(war, thing, hour);
    }

    public int carts(int city, int b, int c, int place) {
        if (!isCity(city) || !within(b, 0, 400) || !within(c, 1, 3) || place < NONE) {
            return refusedAsTen();
        }
        bridge.lineUp(war, city, c);
        if (bridge.least > b) {
            return NONE;
        }
        if (place == NONE) {
            return bridge.least;
        }
        return place < bridge.count ? bridge.giftAt(place) : NOT_SO_MANY;
    }

    public int years(int city, int n, int seed) {
        if (!isCity(city) || !within(n, 0, 90) || !within(seed, 0, 999999)) {
            return counted(BAD);
        }
        if (war.gifts <= 0) {
            return counted(NO);
        }
        trial.copyFrom(war);
        long x = seed;
        for (int i = 0; i < n; i++) {
            x = nextOfSeed(x);
            int gift = (int) (x / 65536 % war.gifts);
            x = nextOfSeed(x);
            int hour = (int) (x / 65536 % HOURS);
            trial.deliver(gift, hour);
        }
        return trial.lost[city];
    }

    // ---- what there is

    public long part(int what) {
        switch (what) {
            case 0: return above;
            case 1: return below;
            default: return counted(BAD);
        }
    }

    public int image(int i) {
        if (i == 0) {
            image0.copyFrom(war);
            kept0 = true;
            return 1;
        }
        if (i == 1) {
            image1.copyFrom(war);
            kept1 = true;
            return 1;
        }
        return counted(BAD);
    }

    public int from(int i) {
        if (!within(i, 0, 1)) {
            return counted(BAD);
        }
        if (i == 0 ? !kept0 : !kept1) {
            return counted(NO);
        }
        war.copyFrom(i == 0 ? image0 : image1);
        return 1;
    }

    public int status(int what) {
        switch (what) {
            case 0: return bads;
            case 1: return noes;
            case 2: return fulls;
            default:
                counted(BAD);
                return NONE;
        }
    }

    public int count(int what) {
        return within(what, 0, 5) ? howMany(what) : counted(BAD);
    }

    public long digest() {
        long h = 863;
        for (int what = 0; what <= 5; what++) {
            h = 31 * h + howMany(what);
        }
        h = war.digestThings(h);
        h = war.digestGifts(h);
        h = war.digestCities(h);
        h = 31 * h + above;
        return 31 * h + below;
    }

    // ---- what the calls above share

    /** Passes an answer on; one that refuses is counted for status. */
    private int counted(int answer) {
        if (answer == BAD) {
            bads++;
        } else if (answer == NO) {
            noes++;
        } else if (answer == FULL) {
            fulls++;
        }
        return answer;
    }

    private int refusedAsTen() {
        counted(BAD);
        return BAD_TEN;
    }

    /** An item is told to the trial war; the answer is that of the call it stands for. */
    private int tellItem(int item) {
        int word = text.wordOf(item);
        int a = text.numberOf(item, 0);
        int b = text.numberOf(item, 1);
        int c = text.numberOf(item, 2);
        int d = text.numberOf(item, 3);
        switch (word) {
            case Telling.THING: return trial.addThing(a, b, c, d);
            case Telling.GIFT: return trial.addGift(a, b, c, d);
            case Telling.IN: return trial.putIn(a, b);
            case Telling.SET_GATE: return trial.setMeasure(a, GATE, b);
            case Telling.SET_EAR: return trial.setMeasure(a, EAR, b);
            case Telling.SET_SCALE: return trial.setMeasure(a, SCALE, b);
            case Telling.SET_WATCH: return trial.setWatch(a, b, c);
            default: return BAD;
        }
    }

    private void keepFraction(long over, long under) {
        long common = commonDivisor(over, under);
        if (common > 0) {
            above = over / common;
            below = under / common;
        }
    }

    private int howMany(int what) {
        switch (what) {
            case 0: return war.things;
            case 1: return war.gifts;
            case 2: return war.days;
            case 3: return war.thingsInGifts();
            case 4: return war.past.moments;
            default: return text.length;
        }
    }

    private static long nextOfSeed(long x) {
        return (x * 1103515245L + 12345L) % 2147483648L;
    }

    private static long commonDivisor(long a, long b) {
        long one = a;
        long other = b;
        // Euclid's steps over longs are under a hundred.
        for (int i = 0; i < 100 && other != 0; i++) {
            long left = one % other;
            one = other;
            other = left;
        }
        return one;
    }

    private static boolean within(int n, int least, int most) {
        return n >= least && n <= most;
    }

    private static boolean isCity(int n) {
        return within(n, 0, CITIES - 1);
    }

    private static boolean isHour(int n) {
        return within(n, 0, HOURS - 1);
    }

    private static void copyInts(int[] from, int[] to) {
        System.arraycopy(from, 0, to, 0, Math.min(from.length, to.length));
    }

    /** The numbers of the things in a set, together. */
    private static int sumOver(int set, int[] numbers) {
        int sum = 0;
        for (int t = 0; t < numbers.length; t++) {
            if ((set >> t & 1) != 0) {
                sum += numbers[t];
            }
        }
        return sum;
    }

    /** All that an image keeps: things, gifts, cities, days, and what may be undone. */
    private static final class War {
        int things;
        int gifts;
        int days;
        final int[] size = new int[MOST_THINGS];
        final int[] weight = new int[MOST_THINGS];
        final int[] sound = new int[MOST_THINGS];
        final int[] harm = new int[MOST_THINGS];
        final int[] in = new int[MOST_THINGS];
        final int[] kind = new int[MOST_GIFTS];
        final int[] owner = new int[MOST_GIFTS];
        final int[] empty = new int[MOST_GIFTS];
        final int[] room = new int[MOST_GIFTS];
        final int[] told = new int[MOST_GIFTS];
        final int[] gate = new int[CITIES];
        final int[] ear = new int[CITIES];
        final int[] scale = new int[CITIES];
        final int[] lost = new int[CITIES];
        /** The hours of city 0, then those of city 1. */
        final int[] watch = new int[CITIES * HOURS];
        final Past past = new Past();

        War() {
            renew();
        }

        void renew() {
            things = 0;
            gifts = 0;
            days = 0;
            for (int city = 0; city < CITIES; city++) {
                gate[city] = 15;
                ear[city] = 10;
                scale[city] = 60;
                lost[city] = 0;
            }
            for (int i = 0; i < watch.length; i++) {
                watch[i] = 0;
            }
            forget();
        }

        void copyFrom(War other) {
            things = other.things;
            gifts = other.gifts;
            days = other.days;
            copyInts(other.size, size);
            copyInts(other.weight, weight);
            copyInts(other.sound, sound);
            copyInts(other.harm, harm);
            copyInts(other.in, in);
            copyInts(other.kind, kind);
            copyInts(other.owner, owner);
            copyInts(other.empty, empty);
            copyInts(other.room, room);
            copyInts(other.told, told);
            copyInts(other.gate, gate);
            copyInts(other.ear, ear);
            copyInts(other.scale, scale);
            copyInts(other.lost, lost);
            copyInts(other.watch, watch);
            copyInts(other.past.kept, past.kept);
            past.moments = other.past.moments;
        }

        boolean hasThing(int n) {
            return within(n, 0, things - 1);
        }

        boolean hasGift(int n) {
            return within(n, 0, gifts - 1);
        }

        int addThing(int itsSize, int itsWeight, int itsSound, int itsHarm) {
            if (!within(itsSize, 1, 9) || !within(itsWeight, 0, 20)
                    || !within(itsSound, 0, 20) || !within(itsHarm, 0, 20)) {
                return BAD;
            }
            if (things >= MOST_THINGS) {
                return FULL;
            }
            size[things] = itsSize;
            weight[things] = itsWeight;
            sound[things] = itsSound;
            harm[things] = itsHarm;
            in[things] = NONE;
            forget();
            return things++;
        }

        int addGift(int itsKind, int city, int itsEmpty, int itsRoom) {
            if (!within(itsKind, 0, KINDS - 1) || !isCity(city)
                    || !within(itsEmpty, 0, 50) || !within(itsRoom, 0, 30)) {
                return BAD;
            }
            if (gifts >= MOST_GIFTS) {
                return FULL;
            }
            kind[gifts] = itsKind;
            owner[gifts] = city;
            empty[gifts] = itsEmpty;
            room[gifts] = itsRoom;
            told[gifts] = 0;
            forget();
            return gifts++;
        }

        int putIn(int thing, int gift) {
            if (!hasThing(thing) || !hasGift(gift)) {
                return BAD;
            }
            if (in[thing] != NONE || !hasRoom(gift, inside(gift) | 1 << thing)) {
                return NO;
            }
            remember();
            in[thing] = gift;
            return 1;
        }

        int takeOut(int thing) {
            if (!hasThing(thing)) {
                return BAD;
            }
            int gift = in[thing];
            if (gift == NONE) {
                return NO;
            }
            remember();
            in[thing] = NONE;
            return gift;
        }

        int setMeasure(int city, int what, int n) {
            if (!isCity(city) || !within(what, 0, MEASURES - 1) || n < 0) {
                return BAD;
            }
            if (what == GATE) {
                return n > MOST_GATE ? BAD : replaced(gate, city, n);
            }
            if (what == EAR) {
                return n > MOST_EAR ? BAD : replaced(ear, city, n);
            }
            return n > MOST_SCALE ? BAD : replaced(scale, city, n);
        }

        int setWatch(int city, int hour, int n) {
            if (!isCity(city) || !isHour(hour) || !within(n, 0, 20)) {
                return BAD;
            }
            return replaced(watch, city * HOURS + hour, n);
        }

        private static int replaced(int[] numbers, int at, int n) {
            if (!within(at, 0, numbers.length - 1)) {
                return BAD;
            }
            int was = numbers[at];
            numbers[at] = n;
            return was;
        }

        /** Sends a gift to the other city: what that city loses, or REFUSED. */
        int deliver(int gift, int hour) {
            int other = otherCity(gift);
            int set = inside(gift);
            int answer = REFUSED;
            if (passes(gift, set)) {
                answer = loss(gift, set, hour);
                lost[other] += answer;
                owner[gift] = other;
                freeThings(set);
            } else {
                lost[other]++;
            }
            days++;
            return answer;
        }

        private void freeThings(int set) {
            for (int t = 0; t < things; t++) {
                if ((set >> t & 1) != 0) {
                    in[t] = NONE;
                }
            }
        }

        // What may be undone.

        void remember() {
            past.keep(owner, in, lost, days);
        }

        void forget() {
            past.moments = 0;
        }

        int goBack() {
            if (past.moments <= 0) {
                return NO;
            }
            days = past.giveBack(owner, in, lost);
            return 1;
        }

        // Which things and gifts stand where.

        int inside(int gift) {
            int set = 0;
            for (int t = 0; t < things; t++) {
                if (in[t] == gift) {
                    set |= 1 << t;
                }
            }
            return set;
        }

        /** Those in none and those in the gift: what a hiding or a belief is about. */
        int mayBeIn(int gift) {
            return inside(NONE) | inside(gift);
        }

        int thingsInGifts() {
            return things - Integer.bitCount(inside(NONE));
        }

        int giftsOf(int city) {
            int set = 0;
            for (int g = 0; g < gifts; g++) {
                if (owner[g] == city) {
                    set |= 1 << g;
                }
            }
            return set;
        }

        int otherCity(int gift) {
            return 1 - owner[gift];
        }

        // What a gift would be with a set of things in it.

        boolean hasRoom(int gift, int set) {
            return sumOver(set, size) <= room[gift];
        }

        int weighs(int gift, int set) {
            switch (kind[gift]) {
                case LAW: return empty[gift];
                case LIVING:
                case ECHO: return empty[gift] + sumOver(set, weight) + Math.min(days, 9);
                default: return empty[gift] + sumOver(set, weight);
            }
        }

        int sounds(int gift, int set) {
            int plain = sumOver(set, sound);
            switch (kind[gift]) {
                case DOUBLE:
                case RETURNED: return plain / 2;
                case LIVING: return plain + 3;
                case ECHO: return 2 * (plain + 3);
                default: return plain;
            }
        }

        int harms(int gift, int set) {
            int plain = sumOver(set, harm);
            switch (kind[gift]) {
                case LAW: return plain / 2;
                case RETURNED: return set == 0 ? plain : plain + 2;
                case ECHO: return days % 2 == 0 ? plain : 0;
                default: return plain;
            }
        }

        boolean isHeard(int gift, int set) {
            return sounds(gift, set) >= ear[otherCity(gift)];
        }

        boolean isHeavy(int gift, int set) {
            return weighs(gift, set) > scale[otherCity(gift)];
        }

        boolean fitsGate(int gift) {
            return room[gift] <= gate[otherCity(gift)];
        }

        boolean passes(int gift, int set) {
            return fitsGate(gift) && !isHeard(gift, set) && !isHeavy(gift, set);
        }

        /** What the other city loses by a gift that it takes in. */
        int loss(int gift, int set, int hour) {
            return Math.max(0, harms(gift, set) - watch[otherCity(gift) * HOURS + hour]);
        }

        // The numbers of the digest.

        long digestThings(long before) {
            long h = before;
            for (int t = 0; t < things; t++) {
                h = 31 * h + size[t];
                h = 31 * h + weight[t];
                h = 31 * h + sound[t];
                h = 31 * h + harm[t];
                h = 31 * h + in[t];
            }
            return h;
        }

        long digestGifts(long before) {
            long h = before;
            for (int g = 0; g < gifts; g++) {
                h = 31 * h + kind[g];
                h = 31 * h + owner[g];
                h = 31 * h + empty[g];
                h = 31 * h + room[g];
                h = 31 * h + told[g];
            }
            return h;
        }

        long digestCities(long before) {
            long h = before;
            for (int city = 0; city < CITIES; city++) {
                h = 31 * h + gate[city];
                h = 31 * h + ear[city];
                h = 31 * h + scale[city];
                for (int hour = 0; hour < HOURS; hour++) {
                    h = 31 * h + watch[city * HOURS + hour];
                }
                h = 31 * h + lost[city];
            }
            return h;
        }
    }

    /** The last moments that may be undone, the oldest first, one behind the other in one row. */
    private static final class Past {
        private static final int IN_AT = MOST_GIFTS;
        private static final int LOST_AT = IN_AT + MOST_THINGS;
        private static final int DAYS_AT = LOST_AT + CITIES;
        private static final int LENGTH = DAYS_AT + 1;

        int moments = 0;
        final int[] kept = new int[MOST_UNDONE * LENGTH];

        void keep(int[] owner, int[] in, int[] lost, int days) {
            if (moments >= MOST_UNDONE) {
                System.arraycopy(kept, LENGTH, kept, 0, (MOST_UNDONE - 1) * LENGTH);
                moments = MOST_UNDONE - 1;
            }
            int at = moments * LENGTH;
            System.arraycopy(owner, 0, kept, at, MOST_GIFTS);
            System.arraycopy(in, 0, kept, at + IN_AT, MOST_THINGS);
            System.arraycopy(lost, 0, kept, at + LOST_AT, CITIES);
            kept[at + DAYS_AT] = days;
            moments++;
        }

        /** Fills the rows as the last moment had them, and answers its days. Only where there is a moment. */
        int giveBack(int[] owner, int[] in, int[] lost) {
            moments--;
            int at = moments * LENGTH;
            System.arraycopy(kept, at, owner, 0, MOST_GIFTS);
            System.arraycopy(kept, at + IN_AT, in, 0, MOST_THINGS);
            System.arraycopy(kept, at + LOST_AT, lost, 0, CITIES);
            return kept[at + DAYS_AT];
        }
    }

    /** What to do in a war; nothing here changes it. */
    private static final class Counsel {
        /** Sets go up by their number, so of like ones with as few things the least stays. */
        static int setThatDoesMost(War war, int gift, int hour) {
            int may = war.mayBeIn(gift);
            int best = NONE;
            int most = 0;
            for (int set = 0; set <= may; set++) {
                if ((set & ~may) != 0 || !war.hasRoom(gift, set) || !war.passes(gift, set)) {
                    continue;
                }
                int loss = war.loss(gift, set, hour);
                boolean fewer = Integer.bitCount(set) < Integer.bitCount(best);
                if (best == NONE || loss > most || loss == most && fewer) {
                    best = set;
                    most = loss;
                }
            }
            return best;
        }

        static int leastGate(War war, int city) {
            int least = 0;
            for (int g = 0; g < war.gifts; g++) {
                int set = war.inside(g);
                if (war.owner[g] != city || set == 0) {
                    continue;
                }
                if (war.isHeard(g, set) || war.isHeavy(g, set)) {
                    return NONE;
                }
                least = Math.max(least, war.room[g]);
            }
            return least <= MOST_GATE ? least : NONE;
        }

        static int leastEar(War war, int city) {
            int least = 0;
            for (int g = 0; g < war.gifts; g++) {
                int set = war.inside(g);
                if (war.owner[g] != city || set == 0) {
                    continue;
                }
                if (!war.fitsGate(g) || war.isHeavy(g, set)) {
                    return NONE;
                }
                least = Math.max(least, war.sounds(g, set) + 1);
            }
            return least <= MOST_EAR ? least : NONE;
        }

        /** In how many of ten to the number of things' ways the gift is heard, or not, as told. */
        static long waysHeard(War war, int gift, int c, boolean heard) {
            int may = war.mayBeIn(gift);
            long ways = 0;
            for (int set = 0; set <= may; set++) {
                if ((set & ~may) == 0 && war.isHeard(gift, set) == heard) {
                    ways += waysOf(set, may, c);
                }
            }
            return ways;
        }

        /** In how many of these ways it is empty. */
        static long waysEmpty(War war, int gift, int c, boolean heard) {
            return war.isHeard(gift, 0) == heard ? waysOf(0, war.mayBeIn(gift), c) : 0;
        }

        private static long waysOf(int set, int may, int c) {
            long ways = 1;
            for (int t = 0; t < MOST_THINGS; t++) {
                if ((may >> t & 1) != 0) {
                    ways *= (set >> t & 1) != 0 ? c : 10 - c;
                }
            }
            return ways;
        }

        static int restingPairs(War war, int gift, int hour) {
            int pairs = 0;
            for (int sends = 0; sends <= 1; sends++) {
                for (int does = 0; does < CHOICES; does++) {
                    if (rests(war, gift, hour, sends, does)) {
                        pairs++;
                    }
                }
            }
            return pairs;
        }

        static int firstRestingPair(War war, int gift, int hour) {
            for (int sends = 0; sends <= 1; sends++) {
                for (int does = 0; does < CHOICES; does++) {
                    if (rests(war, gift, hour, sends, does)) {
                        return 10 * sends + does;
                    }
                }
            }
            return NONE;
        }

        private static boolean rests(War war, int gift, int hour, int sends, int does) {
            if (senderLoses(sent(war, gift, 1 - sends), does) < senderLoses(sent(war, gift, sends), does)) {
                return false;
            }
            int set = sent(war, gift, sends);
            int loses = otherLoses(war, gift, set, hour, does);
            for (int instead = 0; instead < CHOICES; instead++) {
                if (otherLoses(war, gift, set, hour, instead) < loses) {
                    return false;
                }
            }
            return true;
        }

        /** What is inside by the sender's choice: 0 as it is, 1 empty. */
        private static int sent(War war, int gift, int sends) {
            return sends == 0 ? war.inside(gift) : 0;
        }

        private static int senderLoses(int set, int does) {
            switch (does) {
                case REFUSES: return 2;
                case OPENS: return set != 0 ? 4 : 0;
                default: return 0;
            }
        }

        private static int otherLoses(War war, int gift, int set, int hour, int does) {
            switch (does) {
                case TAKES: return war.loss(gift, set, hour);
                case REFUSES: return 1;
                default: return set != 0 ? 3 : 6;
            }
        }

        static int hourOfLeastHarm(War war, int gift) {
            int set = war.inside(gift);
            int best = 0;
            for (int hour = 1; hour < HOURS; hour++) {
                if (war.loss(gift, set, hour) < war.loss(gift, set, best)) {
                    best = hour;
                }
            }
            return best;
        }

        static int giftsThatFit(War war, int thing, int hour) {
            int fit = 0;
            for (int g = 0; g < war.gifts; g++) {
                if (isAllAsTold(war, thing, g, hour)) {
                    fit |= 1 << g;
                }
            }
            return fit;
        }

        private static boolean isAllAsTold(War war, int thing, int gift, int hour) {
            for (int g = 0; g < war.gifts; g++) {
                int set = g == gift ? war.inside(g) | 1 << thing : war.inside(g);
                if (war.loss(g, set, hour) != war.told[g]) {
                    return false;
                }
            }
            return true;
        }
    }

    /** The bridge that a city's gifts are drawn over: the best order of them, found by trying. */
    private static final class Bridge {
        int count = 0;
        int least = NONE;
        private int neighbours = 1;
        /** Bits of the gifts that stand in the order that is tried. */
        private int drawn = 0;
        private final int[] gifts = new int[MOST_GIFTS];
        private final int[] weights = new int[MOST_GIFTS];
        private final int[] order = new int[MOST_GIFTS];
        private final int[] best = new int[MOST_GIFTS];

        void lineUp(War war, int city, int c) {
            count = 0;
            for (int g = 0; g < war.gifts && count < MOST_GIFTS; g++) {
                if (war.owner[g] == city) {
                    gifts[count] = g;
                    weights[count] = war.weighs(g, war.inside(g));
                    count++;
                }
            }
            neighbours = c;
            drawn = 0;
            least = NONE;
            drawFrom(this, 0, 0);
        }

        int giftAt(int place) {
            return within(place, 0, count - 1) ? gifts[best[place]] : NONE;
        }

        /**
         * Tries each gift at a place behind those that stand. The orders come by their numbers, so the first of
         * like ones is found first, and a start that is no better than what is found can be left.
         */
        private static void drawFrom(Bridge bridge, int place, int greatest) {
            if (bridge.least != NONE && greatest >= bridge.least) {
                return;
            }
            if (place >= bridge.count) {
                bridge.least = greatest;
                copyInts(bridge.order, bridge.best);
                return;
            }
            for (int i = 0; i < bridge.count; i++) {
                if ((bridge.drawn >> i & 1) == 0) {
                    bridge.order[place] = i;
                    bridge.drawn |= 1 << i;
                    drawFrom(bridge, place + 1, Math.max(greatest, bridge.loadBehind(place)));
                    bridge.drawn &= ~(1 << i);
                }
            }
        }

        /**
         * What the gift at a place and its neighbours ahead weigh. At the first places there are fewer than the
         * bridge holds; these are part of the load that follows, so they make no greatest load of their own.
         */
        private int loadBehind(int place) {
            int load = 0;
            for (int p = Math.max(0, place - neighbours + 1); p <= place; p++) {
                load += weights[order[p]];
            }
            return load;
        }
    }

    /** The text that tells a war, and the items that are read out of it. */
    private static final class Telling {
        private static final int THING = 0, GIFT = 1, IN = 2, WORDS = 7;
        private static final int SET_GATE = 3, SET_EAR = 4, SET_SCALE = 5, SET_WATCH = 6;
        private static final int MOST_NUMBERS = 4, MOST_FIGURES = 3;
        /** The shortest item, such as "in0 0;", has six bytes. */
        private static final int MOST_ITEMS = MOST_BYTES / 6;

        int length = 0;
        int items = 0;
        private int fault = NONE;
        private final byte[] bytes = new byte[MOST_BYTES];
        private final int[] words = new int[MOST_ITEMS];
        private final int[] numbers = new int[MOST_ITEMS * MOST_NUMBERS];

        int add(int c) {
            if (!within(c, 0, 127)) {
                return BAD;
            }
            if (length >= MOST_BYTES) {
                return FULL;
            }
            bytes[length] = (byte) c;
            length++;
            return length;
        }

        int makeEmpty() {
            int had = length;
            length = 0;
            return had;
        }

        int wordOf(int item) {
            return within(item, 0, words.length - 1) ? words[item] : NONE;
        }

        int numberOf(int item, int n) {
            int at = item * MOST_NUMBERS + n;
            return within(at, 0, numbers.length - 1) ? numbers[at] : NONE;
        }

        /** Reads the items; the place of the fault, or NONE. */
        int findFault() {
            fault = NONE;
            items = 0;
            int at = afterBlanks(0);
            for (int item = 0; item < MOST_ITEMS && at < length && fault == NONE; item++) {
                at = afterItem(item, at);
                items = item + 1;
            }
            return fault;
        }

        /** The place behind an item, where the next one begins; a fault is kept. */
        private int afterItem(int item, int start) {
            int word = wordAt(start);
            if (word == NONE) {
                return faultAt(start);
            }
            words[item] = word;
            int at = afterBlanks(afterLetters(start));
            for (int n = 0; n < numbersBehind(word); n++) {
                int end = afterFigures(at);
                if (end == at || end - at > MOST_FIGURES) {
                    return faultAt(at);
                }
                numbers[item * MOST_NUMBERS + n] = numberBetween(at, end);
                at = afterBlanks(end);
            }
            if (byteAt(at) != ';') {
                return faultAt(at);
            }
            return afterBlanks(at + 1);
        }

        /** A text that ends too early faults at its length, as any place behind its last byte is that. */
        private int faultAt(int at) {
            fault = at;
            return at;
        }

        private int byteAt(int at) {
            return within(at, 0, length - 1) ? bytes[at] : NONE;
        }

        private int afterBlanks(int start) {
            int at = start;
            while (at < length && byteAt(at) == ' ') {
                at++;
            }
            return at;
        }

        private int afterLetters(int start) {
            int at = start;
            while (at < length && within(byteAt(at), 'a', 'z')) {
                at++;
            }
            return at;
        }

        private int afterFigures(int start) {
            int at = start;
            while (at < length && within(byteAt(at), '0', '9')) {
                at++;
            }
            return at;
        }

        private int numberBetween(int start, int end) {
            int number = 0;
            for (int at = start; at < end; at++) {
                number = 10 * number + byteAt(at) - '0';
            }
            return number;
        }

        private int wordAt(int start) {
            int end = afterLetters(start);
            for (int word = 0; word < WORDS; word++) {
                if (isSpelled(spelling(word), start, end)) {
                    return word;
                }
            }
            return NONE;
        }

        private boolean isSpelled(String word, int start, int end) {
            if (word.length() != end - start) {
                return false;
            }
            for (int i = 0; i < word.length(); i++) {
                if (word.charAt(i) != byteAt(start + i)) {
                    return false;
                }
            }
            return true;
        }

        private static String spelling(int word) {
            switch (word) {
                case THING: return "thing";
                case GIFT: return "gift";
                case IN: return "in";
                case SET_GATE: return "gate";
                case SET_EAR: return "ear";
                case SET_SCALE: return "scale";
                default: return "watch";
            }
        }

        private static int numbersBehind(int word) {
            switch (word) {
                case THING:
                case GIFT: return MOST_NUMBERS;
                case SET_WATCH: return 3;
                default: return 2;
            }
        }
    }
}
