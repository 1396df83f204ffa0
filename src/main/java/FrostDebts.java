/**
 * Debts that end at the first frost of the place in which they are owed.
 *
 * Every number that comes from outside is looked at before it is used, and all
 * rows are made in constructors: a call makes no object and never throws.
 */
public final class FrostDebts {
    public static final int NONE = -1, BAD = -2, NOT = -3, FULL = -4;

    private static final int NULL = 1, INDEX = 2, CAST = 3, STORE = 4, SIZE = 5;
    private static final int PLACE_TEXT = 0, NIGHT_TEXT = 1, TEXTS = 3, BYTES = 256;
    private static final int PLACES = 8, NIGHTS = 40, LAST_NIGHT = 39, DEBTS = 9, PERSONS = 6;
    private static final int PLACE_BYTES = 23, NIGHT_BYTES = 40, DEBT_BYTES = 71;
    private static final int PLACE_STEP = 3, DEBT_STEP = 8;
    private static final int WARMS = 26, FIRST_ZERO = 6, MARKS = 8, SEA_NIGHTS = 20;
    private static final int OPEN = 0, HOLLOW = 1, WALLED = 2, SEA = 3;
    private static final int OWER = 0, LENDER = 1, SUM = 2, SPOT = 3, START = 4, FACTS = 5;
    private static final int SIXTEENTHS = 16, CHANCE_NIGHTS = 12, MOST_BLOCKS = 3, LOT_OF_CLOUD = 4;
    private static final int SHEETS = 4, FORMS = 3, ITEMS = 48, BYTE_FORM = 0, SHORT_FORM = 1;
    private static final int NUMBER_REFUSED = -1000, FINDING_TOLD = -10, COUNTS_OF_DIGEST = 8;
    private static final int LEAST_INT = -2147483648;
    private static final long LONG_REFUSED = -9223372036854775808L;
    /** Clouds lie over all places, so one stands for all of them. */
    private static final int ALL_OVER = 0;

    private final Text[] texts = {new Text(PLACE_BYTES), new Text(NIGHT_BYTES), new Text(DEBT_BYTES)};
    private final Weather weather = new Weather();
    private final Places places = weather.places;
    private final Debts debts = new Debts();
    private final Marks sights = new Marks();
    private final Spans trial = new Spans();
    private final Sheet[] sheets = {new Sheet(), new Sheet(), new Sheet(), new Sheet()};
    private int latestFinding = 0;

    public FrostDebts() {
    }

    // ---- places, nights, debts

    public int type(int text, int b) {
        if (!isBelow(text, TEXTS) || !isBelow(b, BYTES)) return BAD;
        if (!texts[text].add(b)) return FULL;
        parse(text);
        return texts[text].length;
    }

    public int wipe(int text) {
        if (!isBelow(text, TEXTS)) return BAD;
        int had = texts[text].length;
        texts[text].length = 0;
        parse(text);
        return had;
    }

    public int undo(int text) {
        if (!isBelow(text, TEXTS)) return BAD;
        if (texts[text].length == 0) return NOT;
        texts[text].length--;
        parse(text);
        return texts[text].length;
    }

    public int fault(int text) {
        return isBelow(text, TEXTS) ? faultOf(text, texts[text]) : BAD;
    }

    public int place(int place, int what) {
        if (!places.has(place) || !isBelow(what, 2)) return BAD;
        return what == 0 ? places.heights.at(place) : places.kinds.at(place);
    }

    public int warm(int night) {
        return isBelow(night, weather.nights) ? weather.warms.at(night) : BAD;
    }

    public int debt(int debt, int what) {
        if (!isBelow(debt, debts.size) || !isBelow(what, FACTS)) return BAD;
        return debts.fact(debt, what);
    }

    public int zero(int v) {
        if (!isBelow(v, WARMS)) return BAD;
        int was = weather.zero;
        weather.zero = v;
        weather.settle();
        return was;
    }

    public int cloud(int night) {
        return isBelow(night, NIGHTS) ? addMark(weather.clouds, night, ALL_OVER) : BAD;
    }

    public int smoke(int night, int place) {
        if (!isBelow(night, NIGHTS) || !isBelow(place, PLACES)) return BAD;
        return addMark(weather.smokes, night, place);
    }

    public int ice(int night, int place) {
        if (!isBelow(night, NIGHTS) || !isBelow(place, PLACES)) return BAD;
        return addMark(weather.ices, night, place);
    }

    public int back(int what) {
        if (!isBelow(what, 3)) return BAD;
        Marks marks = what == 0 ? weather.clouds : what == 1 ? weather.smokes : weather.ices;
        if (marks.size == 0) return NOT;
        marks.size--;
        weather.settle();
        return marks.size;
    }

    // ---- frost

    public int warmth(int night, int place) {
        if (!isBelow(night, weather.nights) || !places.has(place)) return NUMBER_REFUSED + BAD;
        return weather.warms.at(night) + places.lifts.at(place);
    }

    public int freezes(int night, int place) {
        if (!isBelow(night, weather.nights) || !places.has(place)) return BAD;
        if (hasBit(weather.iced.at(place), night)) return 2;
        return hasBit(weather.told.at(place), night) ? 1 : 0;
    }

    public int first(int place) {
        return places.has(place) ? weather.told.firstOf(place) : BAD;
    }

    public int had(int night) {
        if (!isBelow(night, NIGHTS)) return BAD;
        int bits = 0;
        for (int p = 0; p < places.size; p++) {
            if (weather.told.isBy(p, night)) bits |= 1 << p;
        }
        return bits;
    }

    // ---- debts

    public int stands(int debt, int night) {
        if (!isBelow(debt, debts.size) || !isBelow(night, NIGHTS)) return BAD;
        return isStanding(debt, night, weather.told) ? 1 : 0;
    }

    public int lasts(int debt, int what) {
        if (!isBelow(debt, debts.size) || !isBelow(what, 2)) return BAD;
        if (what == 0) return nightsStood(debt, debts.fact(debt, SPOT));
        return isNothing(debt) ? 1 : 0;
    }

    public int never() {
        int bits = 0;
        for (int d = 0; d < debts.size; d++) {
            if (isStanding(d, LAST_NIGHT, weather.told)) bits |= 1 << d;
        }
        return bits;
    }

    public int owes(int person, int night, int what) {
        if (!isBelow(person, PERSONS) || !isBelow(night, NIGHTS) || !isBelow(what, 2)) return BAD;
        return sumOf(person, night, what == 0 ? OWER : LENDER);
    }

    public int hangs(int night) {
        if (!isBelow(night, NIGHTS)) return BAD;
        int bits = 0;
        for (int person = 0; person < PERSONS; person++) {
            if (sumOf(person, night, OWER) > sumOf(person, night, LENDER)) bits |= 1 << person;
        }
        return bits;
    }

    public int free(int person, int night) {
        if (!isBelow(person, PERSONS) || !isBelow(night, NIGHTS)) return BAD;
        int from = night;
        for (int d = 0; d < debts.size; d++) {
            int stood = nightsStood(d, debts.fact(d, SPOT));
            if (debts.fact(d, OWER) == person && stood > 0) {
                from = Math.max(from, debts.fact(d, START) + stood);
            }
        }
        return from < NIGHTS ? from : NONE;
    }

    // ---- plans

    public int where(int debt, int most, int what) {
        if (!isBelow(debt, debts.size) || !isBelow(most, 2) || !isBelow(what, 2)) return BAD;
        int best = NONE;
        int bestStood = NONE;
        for (int p = 0; p < places.size; p++) {
            int stood = nightsStood(debt, p);
            if (best == NONE || (most == 0 ? stood < bestStood : stood > bestStood)) {
                best = p;
                bestStood = stood;
            }
        }
        return what == 0 ? best : bestStood;
    }

    public int keep(int place, int night, int i) {
        if (!places.has(place) || !isBelow(night, NIGHTS) || !isChoice(i, NIGHTS)) return BAD;
        if (weather.iced.isBy(place, night)) return NONE;
        return countOrItem(weather.told.at(place) & bitsUpTo(night), i);
    }

    public int carry(int person, int night, int i) {
        if (!isBelow(person, PERSONS) || !isBelow(night, weather.nights)) return BAD;
        if (!isChoice(i, MOST_BLOCKS)) return BAD;
        long spots = 0L;
        for (int d = 0; d < debts.size; d++) {
            if (debts.fact(d, OWER) == person && isStanding(d, night, weather.told)) {
                spots |= 1L << debts.fact(d, SPOT);
            }
        }
        return Long.bitCount(spots) <= MOST_BLOCKS ? countOrItem(spots, i) : NONE;
    }

    // ---- seen, chance

    public int seen(int night, int place, int is) {
        if (!isBelow(night, NIGHTS) || !isBelow(place, PLACES) || !isBelow(is, 2)) return BAD;
        return sights.add(night, place, is) ? sights.size : FULL;
    }

    public int forget() {
        int had = sights.size;
        sights.size = 0;
        return had;
    }

    public int read(int s) {
        if (!isBelow(s, SHEETS)) return BAD;
        Sheet from = sheets[s];
        if (from.isLost) return find(NULL);
        int taken = 0;
        for (int i = 0; i + 2 < from.size; i += 3) {
            if (seen(from.items.at(i), from.items.at(i + 1), from.items.at(i + 2)) < 0) break;
            taken++;
        }
        return taken;
    }

    public int was(int night) {
        if (!isBelow(night, weather.nights)) return BAD;
        int bits = 0;
        for (int warm = 0; warm < WARMS; warm++) {
            for (int p = 0; p < places.size; p++) trial.set(p, weather.frostsIfWarm(p, night, warm));
            if (isAsSeen(trial)) bits |= 1 << warm;
        }
        return bits;
    }

    public int carried() {
        int bits = 0;
        for (int i = 0; i < weather.ices.size; i++) {
            for (int p = 0; p < places.size; p++) trial.set(p, weather.frostsWithout(i, p));
            if (isAsSeen(trial)) bits |= 1 << i;
        }
        return bits;
    }

    public int ask(int night) {
        if (!isBelow(night, weather.nights)) return BAD;
        int warms = was(night);
        int best = NONE;
        int bestLeft = 0;
        for (int p = 0; p < places.size; p++) {
            int left = leftAtWorst(warms, night, p);
            if (best == NONE || left < bestLeft) {
                best = p;
                bestLeft = left;
            }
        }
        return best;
    }

    public long chance(int c, int place, int night, int what) {
        if (c < 0 || c > SIXTEENTHS || !places.has(place)
                || !isBelow(night, CHANCE_NIGHTS) || !isBelow(what, 2)) {
            return LONG_REFUSED - BAD;
        }
        if (weather.iced.isBy(place, night)) return 1L;
        int cold = Long.bitCount(weather.frostNights(place, 0L, 0L) & bitsUpTo(night));
        return lowestTerm(power(SIXTEENTHS, cold) - power(c, cold), power(SIXTEENTHS, cold), what);
    }

    public int year(int seed, int place) {
        if (place != NONE && !places.has(place)) return BAD;
        long clouded = cloudsBySeed(seed);
        for (int p = 0; p < places.size; p++) {
            trial.set(p, weather.frostNights(p, clouded, weather.iced.at(p)));
        }
        if (place != NONE) return trial.firstOf(place);
        int standing = 0;
        for (int d = 0; d < debts.size; d++) {
            if (isStanding(d, LAST_NIGHT, trial)) standing++;
        }
        return standing;
    }

    // ---- sheets

    public int sheet(int s, int form, int n) {
        if (!isBelow(s, SHEETS) || !isBelow(form, FORMS) || n > ITEMS) return BAD;
        if (n < 0) return find(SIZE);
        sheets[s].renew(form, n);
        return n;
    }

    public int lose(int s) {
        if (!isBelow(s, SHEETS)) return BAD;
        if (sheets[s].isLost) return find(NULL);
        sheets[s].isLost = true;
        return sheets[s].size;
    }

    public int put(int s, int form, int i, int v) {
        if (!isBelow(s, SHEETS) || !isBelow(form, FORMS)) return BAD;
        int wrong = sheets[s].findingAt(form, i);
        if (wrong != 0) return find(wrong);
        sheets[s].store(i, v);
        return 1;
    }

    public int get(int s, int form, int i) {
        if (!isBelow(s, SHEETS) || !isBelow(form, FORMS)) return LEAST_INT;
        int wrong = sheets[s].findingAt(form, i);
        if (wrong == 0) return sheets[s].items.at(i);
        find(wrong);
        return LEAST_INT;
    }

    public int copy(int s, int i, int t, int j, int n) {
        if (!isBelow(s, SHEETS) || !isBelow(t, SHEETS)) return BAD;
        Sheet from = sheets[s];
        Sheet to = sheets[t];
        if (from.isLost || to.isLost) return find(NULL);
        if (from.form != to.form) return find(STORE);
        if (!from.hasRange(i, n) || !to.hasRange(j, n)) return find(INDEX);
        to.take(from, i, j, n);
        return 1;
    }

    public int write(int what, int s) {
        if (!isBelow(what, 2) || !isBelow(s, SHEETS)) return BAD;
        Sheet to = sheets[s];
        if (to.isLost) return find(NULL);
        int written = Math.min(to.size, NIGHTS);
        for (int night = 0; night < written; night++) {
            to.store(night, what == 0 ? sumOfAll(night) : hangs(night));
        }
        return written;
    }

    public int count(int what) {
        switch (what) {
            case 0: return places.size;
            case 1: return weather.nights;
            case 2: return debts.size;
            case 3: return texts[0].length;
            case 4: return texts[1].length;
            case 5: return texts[2].length;
            case 6: return weather.clouds.size + weather.smokes.size + weather.ices.size;
            case 7: return sights.size;
            case 8: return latestFinding;
            default: return BAD;
        }
    }

    public long digest() {
        long h = 17L;
        for (int what = 0; what < COUNTS_OF_DIGEST; what++) h = mix(h, count(what));
        for (int text = 0; text < TEXTS; text++) h = mix(h, fault(text));
        for (int p = 0; p < places.size; p++) h = mixPlace(h, p);
        for (int d = 0; d < debts.size; d++) h = mixDebt(h, d);
        for (int person = 0; person < PERSONS; person++) h = mixPerson(h, person);
        h = mixNight(h, 0);
        h = mixNight(h, 5);
        h = mixNight(h, 20);
        h = mixNight(h, 39);
        return mix(mix(mix(h, never()), carried()), year(7, NONE));
    }

    // ---- texts

    private static boolean isBelow(int v, int bound) {
        return v >= 0 && v < bound;
    }

    /** Whether i asks for how many (NONE) or for one of so many items. */
    private static boolean isChoice(int i, int items) {
        return i >= NONE && i < items;
    }

    private static int faultOf(int text, Text read) {
        for (int i = 0; i < read.length; i++) {
            if (!fits(text, read, i)) return i;
        }
        return isEnded(text, read.length) ? NONE : read.length;
    }

    private static boolean fits(int text, Text read, int i) {
        int b = read.bytes.at(i);
        if (text == PLACE_TEXT) return fitsPlace(i % PLACE_STEP, b);
        if (text == NIGHT_TEXT) return b >= 'a' && b <= 'z';
        return fitsDebt(i % DEBT_STEP, b, read.bytes.at(i - 1));
    }

    private static boolean fitsPlace(int at, int b) {
        if (at == 0) return isFigure(b, 9);
        return at == 1 ? kindOf(b) != NONE : b == ';';
    }

    private static boolean fitsDebt(int at, int b, int ahead) {
        switch (at) {
            case 0:
            case 1: return b >= 'a' && b <= 'f';
            case 2: return isFigure(b, 9);
            case 3: return isFigure(b, 9) && !(ahead == '0' && b == '0');
            case 4: return isFigure(b, 7);
            case 5: return isFigure(b, 3);
            case 6: return isFigure(b, 9);
            default: return b == ';';
        }
    }

    /** A row of items may end behind a whole item alone, not behind its ; */
    private static boolean isEnded(int text, int length) {
        if (length == 0 || text == NIGHT_TEXT) return true;
        if (text == PLACE_TEXT) return length % PLACE_STEP == PLACE_STEP - 1;
        return length % DEBT_STEP == DEBT_STEP - 1;
    }

    private static boolean isFigure(int b, int most) {
        return b >= '0' && b <= '0' + most;
    }

    private static int kindOf(int b) {
        switch (b) {
            case 'o': return OPEN;
            case 'h': return HOLLOW;
            case 'w': return WALLED;
            case 's': return SEA;
            default: return NONE;
        }
    }

    private void parse(int text) {
        if (!isBelow(text, TEXTS)) return;
        Text read = texts[text];
        int length = faultOf(text, read) == NONE ? read.length : 0;
        if (text == PLACE_TEXT) {
            places.parse(read, length);
        } else if (text == NIGHT_TEXT) {
            weather.parse(read, length);
        } else {
            debts.parse(read, length);
        }
        weather.settle();
    }

    // ---- nights as bits

    private int addMark(Marks marks, int night, int place) {
        if (!marks.add(night, place, 1)) return FULL;
        weather.settle();
        return marks.size;
    }

    private long cloudsBySeed(int seed) {
        long bits = 0L;
        int lot = seed;
        for (int night = 0; night < weather.nights; night++) {
            lot = lot * 1103515245 + 12345;
            if ((lot >>> 16) % LOT_OF_CLOUD == 0) bits |= 1L << night;
        }
        return bits;
    }

    private static boolean hasBit(long bits, int i) {
        return (bits >>> i & 1L) != 0L;
    }

    private static long bitsBelow(int night) {
        return (1L << night) - 1L;
    }

    private static long bitsUpTo(int night) {
        return (2L << night) - 1L;
    }

    /** How many bits there are (i is NONE), or which is the i-th. */
    private static int countOrItem(long bits, int i) {
        if (i == NONE) return Long.bitCount(bits);
        int left = i;
        for (int at = 0; at < NIGHTS; at++) {
            if (hasBit(bits, at)) {
                if (left == 0) return at;
                left--;
            }
        }
        return NONE;
    }

    // ---- debts under a weather

    private boolean isStanding(int debt, int night, Spans frosts) {
        int spot = debts.fact(debt, SPOT);
        return places.has(spot) && debts.fact(debt, START) <= night && !frosts.isBy(spot, night);
    }

    private int nightsStood(int debt, int spot) {
        if (!places.has(spot)) return 0;
        int first = weather.told.firstOf(spot);
        int end = first == NONE ? NIGHTS : first;
        return Math.max(0, end - debts.fact(debt, START));
    }

    private boolean isNothing(int debt) {
        int spot = debts.fact(debt, SPOT);
        if (!places.has(spot)) return true;
        int first = weather.told.firstOf(spot);
        return first != NONE && first < debts.fact(debt, START);
    }

    private int sumOf(int person, int night, int side) {
        int sum = 0;
        for (int d = 0; d < debts.size; d++) {
            if (debts.fact(d, side) == person && isStanding(d, night, weather.told)) sum += debts.fact(d, SUM);
        }
        return sum;
    }

    private int sumOfAll(int night) {
        int sum = 0;
        for (int person = 0; person < PERSONS; person++) sum += sumOf(person, night, OWER);
        return sum;
    }

    // ---- what was seen

    private boolean isAsSeen(Spans frosts) {
        for (int i = 0; i < sights.size; i++) {
            int spot = sights.spots.at(i);
            boolean had = places.has(spot) && frosts.isBy(spot, sights.nights.at(i));
            if (had != (sights.signs.at(i) == 1)) return false;
        }
        return true;
    }

    /** How many of these warm ones are left, at worst, when the place is looked at behind the night. */
    private int leftAtWorst(int warms, int night, int place) {
        int had = 0;
        int not = 0;
        for (int warm = 0; warm < WARMS; warm++) {
            if (!hasBit(warms, warm)) continue;
            if ((weather.frostsIfWarm(place, night, warm) & bitsUpTo(night)) != 0L) {
                had++;
            } else {
                not++;
            }
        }
        return Math.max(had, not);
    }

    // ---- fractions

    private static long power(int base, int times) {
        long power = 1L;
        for (int i = 0; i < times; i++) power *= base;
        return power;
    }

    /** Below is a power of two, so halves are all that above can share with it. */
    private static long lowestTerm(long above, long below, int what) {
        long a = above;
        long b = below;
        for (int i = 0; i < 64 && b > 1L && a % 2L == 0L; i++) {
            a /= 2L;
            b /= 2L;
        }
        return what == 0 ? a : b;
    }

    // ---- findings, digest

    private int find(int number) {
        latestFinding = number;
        return FINDING_TOLD - number;
    }

    private static long mix(long h, long v) {
        return 31L * h + v;
    }

    private long mixPlace(long h, int p) {
        long mixed = mix(mix(h, place(p, 0)), place(p, 1));
        mixed = mix(mix(mix(mixed, warmth(3, p)), freezes(3, p)), first(p));
        mixed = mix(mix(mixed, keep(p, 9, NONE)), keep(p, 9, 0));
        mixed = mix(mix(mixed, chance(5, p, 9, 0)), chance(5, p, 9, 1));
        return mix(mixed, year(7, p));
    }

    private long mixDebt(long h, int d) {
        long mixed = h;
        for (int what = 0; what < FACTS; what++) mixed = mix(mixed, debt(d, what));
        mixed = mix(mix(mixed, lasts(d, 0)), lasts(d, 1));
        mixed = mix(mix(mixed, where(d, 0, 0)), where(d, 0, 1));
        return mix(mix(mixed, where(d, 1, 0)), where(d, 1, 1));
    }

    private long mixPerson(long h, int person) {
        long mixed = mix(mix(h, owes(person, 5, 0)), owes(person, 5, 1));
        mixed = mix(mixed, free(person, 0));
        return mix(mix(mixed, carry(person, 5, NONE)), carry(person, 5, 0));
    }

    private long mixNight(long h, int night) {
        return mix(mix(mix(mix(h, had(night)), hangs(night)), was(night)), ask(night));
    }

    /** Numbers in a row; outside it there is 0, and nothing is kept. */
    private static final class Row {
        final int[] items;

        Row(int room) {
            items = new int[Math.max(0, room)];
        }

        int at(int i) {
            return i >= 0 && i < items.length ? items[i] : 0;
        }

        void set(int i, int v) {
            if (i >= 0 && i < items.length) items[i] = v;
        }
    }

    /** The bytes of one text, as they were typed. */
    private static final class Text {
        final Row bytes;
        final int room;
        int length = 0;

        Text(int room) {
            this.room = room;
            bytes = new Row(room);
        }

        boolean add(int b) {
            if (length >= room) return false;
            bytes.set(length, b);
            length++;
            return true;
        }
    }

    /** Clouds, smoke, ice or sights, in the order in which they were told. */
    private static final class Marks {
        final Row nights = new Row(MARKS);
        final Row spots = new Row(MARKS);
        final Row signs = new Row(MARKS);
        int size = 0;

        boolean add(int night, int spot, int sign) {
            if (size >= MARKS) return false;
            nights.set(size, night);
            spots.set(size, spot);
            signs.set(size, sign);
            size++;
            return true;
        }

        /** The nights of the marks in a place, as bits; one mark may be left out. */
        long nightsAt(int spot, int without) {
            long bits = 0L;
            for (int i = 0; i < size; i++) {
                if (i != without && spots.at(i) == spot) bits |= 1L << nights.at(i);
            }
            return bits;
        }
    }

    /** What text 0 tells. */
    private static final class Places {
        final Row heights = new Row(PLACES);
        final Row kinds = new Row(PLACES);
        /** How much warmer than its night a place is. */
        final Row lifts = new Row(PLACES);
        int size = 0;

        void parse(Text read, int length) {
            size = Math.min((length + 1) / PLACE_STEP, PLACES);
            for (int p = 0; p < size; p++) {
                heights.set(p, read.bytes.at(PLACE_STEP * p) - '0');
                kinds.set(p, kindOf(read.bytes.at(PLACE_STEP * p + 1)));
                lifts.set(p, liftOf(kinds.at(p)) - heights.at(p));
            }
        }

        private static int liftOf(int kind) {
            switch (kind) {
                case HOLLOW: return -3;
                case WALLED: return 2;
                case SEA: return 4;
                default: return 0;
            }
        }

        boolean has(int place) {
            return place >= 0 && place < size;
        }
    }

    /** What text 2 tells: five facts for each debt. */
    private static final class Debts {
        final Row facts = new Row(DEBTS * FACTS);
        int size = 0;

        void parse(Text read, int length) {
            size = Math.min((length + 1) / DEBT_STEP, DEBTS);
            for (int d = 0; d < size; d++) {
                int at = DEBT_STEP * d;
                note(d, OWER, read.bytes.at(at) - 'a');
                note(d, LENDER, read.bytes.at(at + 1) - 'a');
                note(d, SUM, twoFigures(read, at + 2));
                note(d, SPOT, read.bytes.at(at + 4) - '0');
                note(d, START, twoFigures(read, at + 5));
            }
        }

        private static int twoFigures(Text read, int at) {
            return 10 * (read.bytes.at(at) - '0') + read.bytes.at(at + 1) - '0';
        }

        private void note(int debt, int what, int v) {
            facts.set(FACTS * debt + what, v);
        }

        int fact(int debt, int what) {
            return facts.at(FACTS * debt + what);
        }
    }

    /** For each place some of the nights, as bits. */
    private static final class Spans {
        final long[] nights = new long[PLACES];

        long at(int place) {
            return place >= 0 && place < nights.length ? nights[place] : 0L;
        }

        void set(int place, long bits) {
            if (place >= 0 && place < nights.length) nights[place] = bits;
        }

        boolean isBy(int place, int night) {
            return (at(place) & bitsUpTo(night)) != 0L;
        }

        int firstOf(int place) {
            return countOrItem(at(place), 0);
        }
    }

    /** When it freezes where: as told, or had something been otherwise. */
    private static final class Weather {
        final Places places = new Places();
        final Marks clouds = new Marks();
        final Marks smokes = new Marks();
        final Marks ices = new Marks();
        final Row warms = new Row(NIGHTS);
        int nights = 0;
        int zero = FIRST_ZERO;
        long clouded = 0L;
        final Spans smoked = new Spans();
        /** Ice in nights that there are: in others it is nothing. */
        final Spans iced = new Spans();
        /** The nights of frost or ice. */
        final Spans told = new Spans();

        void parse(Text read, int length) {
            nights = Math.min(length, NIGHTS);
            for (int night = 0; night < nights; night++) warms.set(night, read.bytes.at(night) - 'a');
        }

        /** Comes behind every change, so that each answer finds the weather as it is. */
        void settle() {
            clouded = clouds.nightsAt(ALL_OVER, NONE);
            for (int p = 0; p < places.size; p++) {
                smoked.set(p, smokes.nightsAt(p, NONE));
                iced.set(p, ices.nightsAt(p, NONE) & bitsBelow(nights));
                told.set(p, frostNights(p, clouded, iced.at(p)));
            }
        }

        /** Whether a night this warm freezes a place, if no cloud or smoke keeps it. */
        boolean isCold(int night, int place, int warm) {
            boolean isSeaKept = places.kinds.at(place) == SEA && night < SEA_NIGHTS;
            return warm + places.lifts.at(place) < zero && !isSeaKept;
        }

        long frostNights(int place, long cloudy, long icy) {
            long cold = 0L;
            for (int night = 0; night < nights; night++) {
                if (isCold(night, place, warms.at(night))) cold |= 1L << night;
            }
            return cold & ~(cloudy | smoked.at(place)) | icy;
        }

        /** Had one block of ice not been. */
        long frostsWithout(int block, int place) {
            return frostNights(place, clouded, ices.nightsAt(place, block) & bitsBelow(nights));
        }

        /** Had one night been this warm: no bit but its own can change. */
        long frostsIfWarm(int place, int night, int warm) {
            long bit = 1L << night;
            long frost = isCold(night, place, warm) ? bit & ~(clouded | smoked.at(place)) : 0L;
            return told.at(place) & ~bit | iced.at(place) & bit | frost;
        }
    }

    /** A lost sheet, or a row of a form; what is stored keeps the lowest bits that the form has. */
    private static final class Sheet {
        final Row items = new Row(ITEMS);
        boolean isLost = true;
        int form = BYTE_FORM;
        int size = 0;

        void renew(int newForm, int newSize) {
            isLost = false;
            form = newForm;
            size = newSize;
            for (int i = 0; i < ITEMS; i++) items.set(i, 0);
        }

        void store(int i, int v) {
            items.set(i, form == BYTE_FORM ? (byte) v : form == SHORT_FORM ? (short) v : v);
        }

        /** The number of the finding when item i is used as of a form, or 0. */
        int findingAt(int asForm, int i) {
            if (isLost) return NULL;
            if (form != asForm) return CAST;
            return i >= 0 && i < size ? 0 : INDEX;
        }

        boolean hasRange(int from, int n) {
            return from >= 0 && n >= 0 && n <= size && from <= size - n;
        }

        /** Backwards where it moves up, so that a sheet copied onto itself gives what was there. */
        void take(Sheet from, int i, int j, int n) {
            for (int k = 0; k < n; k++) {
                int step = j > i ? n - 1 - k : k;
                items.set(j + step, from.items.at(i + step));
            }
        }
    }
}
