import java.util.Arrays;

/** A church in which nobody may stand out: read from a text, measured, sawn and put to rights. */
public final class LevelSunday {
    public static final int NONE = -1;

    private static final int NO_SUCH = -2;
    private static final int BELOW_NONE = -3;
    private static final int FAULTY = -4;
    private static final int NOTHING = -6;
    private static final int BEYOND = -7;
    private static final int OTHER_WIDTH = -8;
    private static final int NO_PEW = -100;
    private static final int NO_HEIGHT = -1000;

    private static final int MOST_PEWS = 4;
    private static final int MOST_PLACES = 5;
    private static final int MOST_PEOPLE = 8;
    private static final int MOST_HATS = 8;
    private static final int MOST_BOOKS = 5;
    private static final int MOST_LEVEL = 30;
    private static final int LAST_YEAR = 30;
    private static final int DEEPEST = 60;
    private static final int LONGEST_STILTS = 99;
    private static final int MOST_NUMBERS = 60;
    private static final int IMAGES = 3;
    private static final int SLOTS = 4;
    private static final int WIDTHS = 4;
    private static final int GREATEST_SEED = 2_000_000_000;
    private static final int MOST_SEEDS = 20;
    /** Above every height that there can be, as its opposite is below. */
    private static final int ABOVE_ALL = 10_000;

    private final Tape tape = new Tape();
    private final Reader reader = new Reader(tape);
    private final Church church = new Church();
    private final Heights heights = new Heights();
    private final Sawing sawing = new Sawing();
    private final Groups groups = new Groups();
    private final BookSearch bookSearch = new BookSearch(church);
    private final HatSearch hatSearch = new HatSearch(church);
    private final Sightings sightings = new Sightings();
    private final Church[] images = new Church[IMAGES];
    private final boolean[] kept = new boolean[IMAGES];
    private final Row[] slots = new Row[SLOTS];

    public LevelSunday() {
        for (int k = 0; k < IMAGES; k++) {
            images[k] = new Church();
        }
        for (int slot = 0; slot < SLOTS; slot++) {
            slots[slot] = new Row();
        }
    }

    // The tape, and the church that is read from it.

    public int feed(int a, int b, int c, int d, int e) {
        if (!tape.hasRoom()) {
            return NONE;
        }
        tape.add(a);
        tape.add(b);
        tape.add(c);
        tape.add(d);
        tape.add(e);
        return tape.length;
    }

    public int end(int n) {
        if (n < 0 || n > tape.length) {
            return NONE;
        }
        tape.length = n;
        return n;
    }

    public int church() {
        boolean read = reader.readTape();
        tape.length = 0;
        if (!read) {
            return FAULTY;
        }
        church.copyOf(reader.draft);
        return church.lines;
    }

    public int fault(int what) {
        if (what == 0) {
            return reader.fault;
        }
        return what == 1 ? reader.faultPlace : NONE;
    }

    // What is there.

    public int pew(int pew, int what) {
        if (!church.hasPew(pew)) {
            return NO_PEW;
        }
        switch (what) {
            case 0: return church.up[pew];
            case 1: return church.saws[pew];
            case 2: return church.sawn[pew];
            case 3: return Integer.bitCount(church.sittersOf(pew));
            default: return NO_PEW;
        }
    }

    public int floor(int pew, int place) {
        return church.hasPlace(pew, place) ? church.floorAt(pew, place) : NO_HEIGHT;
    }

    public int who(int pew, int place) {
        return church.hasPlace(pew, place) ? church.sitterAt(pew, place) : NO_SUCH;
    }

    public int person(int person, int what) {
        if (!church.hasPerson(person)) {
            return NO_SUCH;
        }
        People people = church.people;
        switch (what) {
            case 0: return people.tall[person];
            case 1: return people.grows[person];
            case 2: return people.heel[person];
            case 3: return people.pewOf[person];
            case 4: return people.placeOf[person];
            case 5: return people.hatOf[person];
            case 6: return church.booksUnder(person);
            default: return NO_SUCH;
        }
    }

    public int thing(int kind, int i) {
        if (kind == 0 && church.hasHat(i)) {
            return church.hatHigh[i];
        }
        return kind == 1 && church.hasBook(i) ? church.bookHigh[i] : NO_SUCH;
    }

    public int count(int what) {
        switch (what) {
            case 0: return church.pews;
            case 1: return church.places;
            case 2: return church.level;
            case 3: return church.byAll ? 1 : 0;
            case 4: return church.people.many;
            case 5: return church.sitters();
            case 6: return church.hats;
            case 7: return church.books;
            case 8: return church.lines;
            case 9: return tape.length;
            case 10: return church.sawnTogether();
            case 11: return slotsWithRow();
            default: return NONE;
        }
    }

    // How high, how far apart.

    public int high(int person, int year) {
        return church.hasPerson(person) && isYear(year) ? church.highOf(person, year) : NO_HEIGHT;
    }

    public int spread(int pew, int year) {
        if (!canAsk(year) || (pew != NONE && !church.hasPew(pew))) {
            return NO_SUCH;
        }
        heights.take(church, year);
        return heights.spreadOf(pew == NONE ? heights.sitting : heights.inPew[pew]);
    }

    public int level(int year) {
        if (!canAsk(year)) {
            return NO_SUCH;
        }
        return isLevelIn(year) ? 1 : 0;
    }

    public int first(int year) {
        if (!canAsk(year)) {
            return NO_SUCH;
        }
        for (int y = year; y <= LAST_YEAR; y++) {
            if (!isLevelIn(y)) {
                return y;
            }
        }
        return NONE;
    }

    public int out(int year, int what) {
        if (!canAsk(year) || what < 0 || what > 1) {
            return NO_SUCH;
        }
        heights.take(church, year);
        int found = NONE;
        for (int p = 0; p < church.people.many; p++) {
            if (heights.isIn(p) && (found == NONE || standsOut(p, found, what))) {
                found = p;
            }
        }
        return found;
    }

    public int above(int person, int year) {
        if (!canAskOfSitter(person, year)) {
            return NO_SUCH;
        }
        heights.take(church, year);
        int lower = 0;
        for (int p = 0; p < church.people.many; p++) {
            if (heights.isIn(p) && heights.high[p] < heights.high[person]) {
                lower++;
            }
        }
        return lower;
    }

    public int hump(int pew, int year, int what) {
        if (!canAsk(year) || !church.hasPew(pew) || what < 0 || what > 1) {
            return NO_SUCH;
        }
        int humps = 0;
        int firstPlace = NONE;
        for (int place = 1; place < church.places - 1; place++) {
            if (isHump(pew, place, year)) {
                humps++;
                firstPlace = firstPlace == NONE ? place : firstPlace;
            }
        }
        return what == 0 ? humps : firstPlace;
    }

    // Sawing.

    public int saws(int year) {
        if (!canAsk(year)) {
            return NO_SUCH;
        }
        return sawAsLongAsCan(year, year) < year ? NONE : sawing.together();
    }

    public int saw(int year, int pew) {
        if (!canAsk(year) || !church.hasPew(pew)) {
            return NO_SUCH;
        }
        return sawAsLongAsCan(year, year) < year ? NONE : sawing.more[pew];
    }

    public int ways(int year) {
        if (!canAsk(year)) {
            return NO_SUCH;
        }
        heights.take(church, year);
        sawing.begin(church);
        return sawing.countWays(heights, church);
    }

    public int ever(int n) {
        if (!canAsk(n)) {
            return NO_SUCH;
        }
        return sawAsLongAsCan(0, n) < n ? NONE : sawing.together();
    }

    public int sawn(int n, int pew) {
        if (!canAsk(n) || !church.hasPew(pew)) {
            return NO_SUCH;
        }
        return sawAsLongAsCan(0, n) < n ? NONE : sawing.more[pew];
    }

    public int lasts() {
        if (!church.isThere()) {
            return NO_SUCH;
        }
        return sawAsLongAsCan(0, LAST_YEAR);
    }

    public int clash(int year) {
        if (!canAsk(year)) {
            return NO_SUCH;
        }
        int set = clashingIn(year);
        return set == 0 ? NONE : Integer.bitCount(set);
    }

    public int shuts(int year) {
        if (!canAsk(year)) {
            return NO_SUCH;
        }
        int set = clashingIn(year);
        return set == 0 ? NONE : set;
    }

    public int cut(int pew, int n) {
        if (!church.hasPew(pew) || n < 0 || n > church.saws[pew] - church.sawn[pew]) {
            return NO_SUCH;
        }
        church.sawn[pew] += n;
        return church.sawn[pew];
    }

    // Books and hats given out.

    public int books(int year) {
        if (!canAsk(year)) {
            return NO_SUCH;
        }
        bookSearch.findFewest(year);
        return bookSearch.fewest();
    }

    public int given(int year, int book) {
        if (!canAsk(year) || !church.hasBook(book)) {
            return NO_SUCH;
        }
        bookSearch.findFewest(year);
        return bookSearch.ownerOf(book);
    }

    public int gifts(int year) {
        if (!canAsk(year)) {
            return NO_SUCH;
        }
        bookSearch.findAll(year);
        return bookSearch.found;
    }

    public int hats(int year) {
        if (!canAsk(year)) {
            return NO_SUCH;
        }
        hatSearch.find(year, true);
        return hatSearch.found;
    }

    public int handed(int year, int person) {
        if (!canAskOfSitter(person, year)) {
            return NO_SUCH;
        }
        hatSearch.find(year, false);
        return hatSearch.found == 0 ? NONE : hatSearch.handedTo[person];
    }

    public int rings(int year, int what) {
        if (!canAsk(year) || what < 0 || what > 1) {
            return NO_SUCH;
        }
        hatSearch.find(year, false);
        if (hatSearch.found == 0) {
            return NONE;
        }
        return hatSearch.ringsOf(what == 1);
    }

    public int bare() {
        if (!church.isThere()) {
            return NO_SUCH;
        }
        int set = 0;
        for (int p = 0; p < church.people.many; p++) {
            if (church.isSeated(p) && church.people.hatOf[p] == NONE) {
                set |= 1 << p;
            }
        }
        return set;
    }

    // Kinds of pews, who stays away, stilts and trenches.

    public int kinds(int year) {
        if (!canAsk(year)) {
            return NO_SUCH;
        }
        groups.take(church, year);
        return groups.fewest(church.level, church.places);
    }

    public int wide(int year, int n) {
        if (!canAsk(year) || n < 0) {
            return NO_SUCH;
        }
        groups.take(church, year);
        int widest = groups.widest();
        for (int inches = 0; inches <= widest; inches++) {
            if (groups.fewest(inches, church.places) <= n) {
                return inches;
            }
        }
        return NONE;
    }

    public int away(int year) {
        return canAsk(year) ? Integer.bitCount(stayingAwayIn(year)) : NO_SUCH;
    }

    public int stay(int year) {
        return canAsk(year) ? stayingAwayIn(year) : NO_SUCH;
    }

    public int stilts(int person, int year) {
        if (!canAskOfSitter(person, year)) {
            return NO_SUCH;
        }
        heights.take(church, year);
        for (int inches = 0; inches <= LONGEST_STILTS; inches++) {
            if (allAreLevel()) {
                return inches;
            }
            heights.high[person]++;
        }
        return NONE;
    }

    public int lengths(int person, int year) {
        if (!canAskOfSitter(person, year)) {
            return NO_SUCH;
        }
        heights.take(church, year);
        int many = 0;
        for (int inches = 0; inches <= LONGEST_STILTS; inches++) {
            if (allAreLevel()) {
                many++;
            }
            heights.high[person]++;
        }
        return many;
    }

    public int digs(int person, int year) {
        if (!canAskOfSitter(person, year)) {
            return NO_SUCH;
        }
        heights.take(church, year);
        heights.high[person] += church.trenchAt(church.people.pewOf[person], church.people.placeOf[person]);
        for (int inches = 0; inches <= DEEPEST; inches++) {
            if (allAreLevel()) {
                return inches;
            }
            heights.high[person]--;
        }
        return NONE;
    }

    public int least(int year, int what) {
        if (!canAsk(year) || what < 0 || what > 1) {
            return NO_SUCH;
        }
        heights.take(church, year);
        int inches = heights.apart(heights.sitting);
        if (what == 0) {
            return inches;
        }
        for (; inches > 0; inches--) {
            sawing.begin(church);
            if (!sawing.settle(heights, heights.sitting, inches - 1)) {
                return inches;
            }
        }
        return 0;
    }

    // Who sits, wears and stands where from now on.

    public int seat(int person, int year) {
        if (!canAsk(year) || !church.hasPerson(person)) {
            return NO_SUCH;
        }
        heights.take(church, year);
        heights.drop(person);
        int standing = church.standingHigh(person, year);
        for (int pew = 0; pew < church.pews; pew++) {
            for (int place = 0; place < church.places; place++) {
                if (church.sitterAt(pew, place) == NONE) {
                    heights.put(person, pew, standing + church.floorAt(pew, place));
                    if (allAreLevel()) {
                        return 100 * pew + place;
                    }
                    heights.drop(person);
                }
            }
        }
        return NONE;
    }

    public int sits(int person, int pew, int place) {
        if (!church.hasPerson(person)) {
            return NO_SUCH;
        }
        if (pew != NONE && (!church.hasPlace(pew, place) || church.sitterAt(pew, place) != NONE)) {
            return NO_SUCH;
        }
        People people = church.people;
        int was = church.isSeated(person) ? 100 * people.pewOf[person] + people.placeOf[person] : NONE;
        people.pewOf[person] = pew;
        people.placeOf[person] = pew == NONE ? NONE : place;
        return was;
    }

    public int change(int person, int other) {
        if (person == other || !church.isSeated(person) || !church.isSeated(other)) {
            return NO_SUCH;
        }
        People people = church.people;
        int pew = people.pewOf[person];
        int place = people.placeOf[person];
        people.pewOf[person] = people.pewOf[other];
        people.placeOf[person] = people.placeOf[other];
        people.pewOf[other] = pew;
        people.placeOf[other] = place;
        return 0;
    }

    public int pair(int year) {
        if (!canAsk(year)) {
            return NO_SUCH;
        }
        heights.take(church, year);
        int leastSpread = heights.spreadOf(heights.sitting);
        int found = NONE;
        for (int one = 0; one < church.people.many; one++) {
            for (int other = one + 1; other < church.people.many; other++) {
                if (heights.isIn(one) && heights.isIn(other)) {
                    int spread = spreadIfChanged(one, other);
                    if (spread < leastSpread) {
                        leastSpread = spread;
                        found = 10 * one + other;
                    }
                }
            }
        }
        return found;
    }

    public int wears(int person, int hat) {
        if (!church.hasPerson(person) || (hat != NONE && !church.hasHat(hat))) {
            return NO_SUCH;
        }
        int was = church.people.hatOf[person];
        int wearer = hat == NONE ? NONE : church.wearerOf(hat);
        if (wearer != NONE) {
            church.people.hatOf[wearer] = NONE;
        }
        church.people.hatOf[person] = hat;
        return was;
    }

    public int stands(int person, int book) {
        if (!church.hasBook(book) || (person != NONE && !church.hasPerson(person))) {
            return NO_SUCH;
        }
        int was = church.standsOn[book];
        church.standsOn[book] = person;
        return was;
    }

    public int trench(int pew, int place, int n) {
        if (!church.hasPlace(pew, place) || n < 0 || n > DEEPEST) {
            return NO_SUCH;
        }
        int was = church.trenchAt(pew, place);
        church.dig(pew, place, n);
        return was;
    }

    public int law(int n) {
        if (!church.isThere() || n < 0 || n > MOST_LEVEL) {
            return NO_SUCH;
        }
        int was = church.level;
        church.level = n;
        return was;
    }

    // What was seen.

    public int seen(int slot, int year) {
        int trouble = lookAt(slot, year);
        return trouble != 0 ? trouble : sightings.countWays();
    }

    public int sure(int slot, int year, int i) {
        int trouble = lookAt(slot, year);
        return trouble != 0 ? trouble : sightings.surelyAt(i);
    }

    public int odd(int slot, int year) {
        int trouble = lookAt(slot, year);
        return trouble != 0 ? trouble : sightings.firstOdd(slots[slot], church, year);
    }

    // Years drawn.

    public int drawn(int seed) {
        if (!church.isThere() || !isSeed(seed)) {
            return NO_SUCH;
        }
        return firstUnlevelDrawn(seed, LAST_YEAR);
    }

    public int grown(int seed, int person, int year) {
        if (!isSeed(seed) || !church.hasPerson(person) || !isYear(year)) {
            return NO_HEIGHT;
        }
        heights.take(church, 0);
        long x = seed;
        for (int y = 1; y <= year; y++) {
            x = heights.growByDraws(x, church.people.many);
        }
        return heights.high[person];
    }

    public int years(int seed, int n, int year) {
        if (!canAsk(year) || !isSeed(seed) || n < 1 || n > MOST_SEEDS) {
            return NO_SUCH;
        }
        int many = 0;
        for (int i = 0; i < n; i++) {
            if (firstUnlevelDrawn(seed + (long) i, year) == NONE) {
                many++;
            }
        }
        return many;
    }

    // Images.

    public int image(int k) {
        if (k < 0 || k >= IMAGES) {
            return NO_SUCH;
        }
        images[k].copyOf(church);
        kept[k] = true;
        return 0;
    }

    public int back(int k) {
        if (k < 0 || k >= IMAGES) {
            return NO_SUCH;
        }
        if (!kept[k]) {
            return NOTHING;
        }
        church.copyOf(images[k]);
        return 0;
    }

    // Rows.

    public int row(int slot, int width, int n) {
        if (!isSlot(slot) || width < 0 || width >= WIDTHS || n > MOST_NUMBERS) {
            return NO_SUCH;
        }
        if (n < 0) {
            return BELOW_NONE;
        }
        slots[slot].begin(width, n);
        return 0;
    }

    public int write(int slot, int i, long v) {
        if (!isSlot(slot)) {
            return NO_SUCH;
        }
        Row row = slots[slot];
        if (!row.there) {
            return NOTHING;
        }
        if (i < 0 || i >= row.many) {
            return BEYOND;
        }
        row.numbers[i] = row.cutToWidth(v);
        return 0;
    }

    public int paste(int slot, int i, int to, int k, int n) {
        if (!isSlot(slot) || !isSlot(to)) {
            return NO_SUCH;
        }
        Row source = slots[slot];
        Row target = slots[to];
        if (!source.there || !target.there) {
            return NOTHING;
        }
        if (source.width != target.width) {
            return OTHER_WIDTH;
        }
        if (!source.holds(i, n) || !target.holds(k, n)) {
            return BEYOND;
        }
        System.arraycopy(source.numbers, i, target.numbers, k, n);
        return 0;
    }

    // What several calls ask.

    private static boolean isYear(int year) {
        return year >= 0 && year <= LAST_YEAR;
    }

    private static boolean isSlot(int slot) {
        return slot >= 0 && slot < SLOTS;
    }

    private static boolean isSeed(int seed) {
        return seed >= 0 && seed <= GREATEST_SEED;
    }

    private boolean canAsk(int year) {
        return church.isThere() && isYear(year);
    }

    private boolean canAskOfSitter(int person, int year) {
        return isYear(year) && church.isSeated(person);
    }

    private int slotsWithRow() {
        int many = 0;
        for (int slot = 0; slot < SLOTS; slot++) {
            many += slots[slot].there ? 1 : 0;
        }
        return many;
    }

    private boolean allAreLevel() {
        return heights.apart(heights.sitting) <= church.level;
    }

    private boolean isLevelIn(int year) {
        heights.take(church, year);
        return allAreLevel();
    }

    private boolean standsOut(int person, int found, int what) {
        int more = heights.high[person] - heights.high[found];
        return what == 0 ? more > 0 : more < 0;
    }

    private boolean isHump(int pew, int place, int year) {
        int middle = church.sitterAt(pew, place);
        int left = church.sitterAt(pew, place - 1);
        int right = church.sitterAt(pew, place + 1);
        if (middle == NONE || left == NONE || right == NONE) {
            return false;
        }
        int enough = church.highOf(middle, year) - church.level;
        return enough > church.highOf(left, year) && enough > church.highOf(right, year);
    }

    private int spreadIfChanged(int one, int other) {
        int step = church.floorUnder(other) - church.floorUnder(one);
        heights.high[one] += step;
        heights.high[other] -= step;
        int spread = heights.spreadOf(heights.sitting);
        heights.high[one] -= step;
        heights.high[other] += step;
        return spread;
    }

    /** The last year up to which sawing keeps all level, one less than the first without. */
    private int sawAsLongAsCan(int from, int to) {
        sawing.begin(church);
        for (int year = from; year <= to; year++) {
            heights.take(church, year);
            if (!sawing.settle(heights, heights.sitting, church.level)) {
                return year - 1;
            }
        }
        return to;
    }

    /** The fewest who sit and can't be level by any sawing, the least such set; 0 without. */
    private int clashingIn(int year) {
        heights.take(church, year);
        sawing.begin(church);
        // If all can be level, so can any of them alone.
        if (sawing.settle(heights, heights.sitting, church.level)) {
            return 0;
        }
        int best = 0;
        int fewest = MOST_PEOPLE + 1;
        for (int set = 1; set <= heights.sitting; set++) {
            int many = Integer.bitCount(set);
            if ((set & ~heights.sitting) == 0 && many < fewest) {
                sawing.begin(church);
                if (!sawing.settle(heights, set, church.level)) {
                    best = set;
                    fewest = many;
                }
            }
        }
        return best;
    }

    private int stayingAwayIn(int year) {
        heights.take(church, year);
        int best = heights.sitting;
        for (int set = 0; set < heights.sitting; set++) {
            if ((set & ~heights.sitting) == 0 && Integer.bitCount(set) < Integer.bitCount(best)
                    && heights.apart(heights.sitting & ~set) <= church.level) {
                best = set;
            }
        }
        return best;
    }

    private int firstUnlevelDrawn(long seed, int lastYear) {
        heights.take(church, 0);
        long x = seed;
        for (int year = 0; year <= lastYear; year++) {
            if (year > 0) {
                x = heights.growByDraws(x, church.people.many);
            }
            if (!allAreLevel()) {
                return year;
            }
        }
        return NONE;
    }

    /** 0 if what a slot tells can be looked at in a year, else what is to be answered. */
    private int lookAt(int slot, int year) {
        if (!isSlot(slot) || !canAsk(year)) {
            return NO_SUCH;
        }
        if (!slots[slot].there) {
            return NOTHING;
        }
        return sightings.take(slots[slot], church, year) ? 0 : NO_SUCH;
    }

    /** Bytes that wait to be read. */
    private static final class Tape {
        private static final int MOST_BYTES = 1400;
        private static final int BYTES_AT_ONCE = 20;

        final byte[] bytes = new byte[MOST_BYTES];
        int length;

        boolean hasRoom() {
            return length + BYTES_AT_ONCE <= MOST_BYTES;
        }

        void add(int four) {
            for (int shift = 24; shift >= 0 && length < MOST_BYTES; shift -= 8) {
                bytes[length] = (byte) (four >> shift);
                length++;
            }
        }
    }

    /** Reads the tape, token by token, into a church of its own, so that a fault leaves the other as it is. */
    private static final class Reader {
        private static final int AT_END = 0;
        private static final int WORD = 1;
        private static final int NUMBER = 2;
        private static final int SIGN = 3;
        private static final int STRANGE = 4;
        private static final int MISPLACED = 1;
        private static final int WRONG_NUMBER = 2;
        private static final int TOO_MANY = 3;
        /** Above every bound, so that longer numbers need not be told apart. */
        private static final int HUGE = 100_000;

        final Church draft = new Church();
        int fault;
        int faultPlace = NONE;
        private final Tape tape;
        private int next;
        private int kind;
        private int place;
        private int value;
        private int numberPlace;

        Reader(Tape tape) {
            this.tape = tape;
        }

        boolean readTape() {
            draft.clear();
            fault = 0;
            faultPlace = NONE;
            next = 0;
            advance();
            for (int line = 0; line < tape.length && kind != AT_END && fault == 0; line++) {
                readLine();
                draft.lines++;
            }
            return fault == 0;
        }

        private void readLine() {
            if (isWord("church") != (draft.lines == 0)) {
                refuse(MISPLACED, place);
            } else if (isWord("church")) {
                readHead();
            } else if (isWord("pew")) {
                readPew();
            } else if (isWord("trench")) {
                readTrench();
            } else if (isWord("person")) {
                readPerson();
            } else if (isWord("sits")) {
                readSits();
            } else if (isWord("hat")) {
                readHat();
            } else if (isWord("wears")) {
                readWears();
            } else if (isWord("book")) {
                readBook();
            } else if (isWord("stands")) {
                readStands();
            } else {
                refuse(MISPLACED, place);
            }
            takeSign();
        }

        private void readHead() {
            takeWord("church");
            takeWord("pews");
            draft.pews = takeNumber(1, MOST_PEWS);
            takeWord("places");
            draft.places = takeNumber(1, MOST_PLACES);
            takeWord("level");
            draft.level = takeNumber(0, MOST_LEVEL);
            takeWord("by");
            draft.byAll = isWord("all");
            takeWord(draft.byAll ? "all" : "row");
        }

        private void readPew() {
            takeWord("pew");
            int pew = takeNumber(0, draft.pews - 1);
            boolean down = isWord("down");
            takeWord(down ? "down" : "up");
            int inches = takeNumber(0, 40);
            takeWord("saws");
            int saws = takeNumber(0, 9);
            if (fault == 0) {
                draft.up[pew] = down ? -inches : inches;
                draft.saws[pew] = saws;
            }
        }

        private void readTrench() {
            takeWord("trench");
            int pew = takeNumber(0, draft.pews - 1);
            int at = takeNumber(0, draft.places - 1);
            int inches = takeNumber(1, DEEPEST);
            if (fault == 0) {
                draft.dig(pew, at, inches);
            }
        }

        private void readPerson() {
            if (draft.people.many >= MOST_PEOPLE) {
                refuse(TOO_MANY, place);
            }
            takeWord("person");
            takeWord("tall");
            int tall = takeNumber(100, 220);
            takeWord("grows");
            int grows = takeNumber(0, 9);
            takeWord("heel");
            int heel = takeNumber(0, 9);
            if (fault == 0) {
                draft.people.add(tall, grows, heel);
            }
        }

        private void readSits() {
            takeWord("sits");
            int person = takeNumber(0, draft.people.many - 1);
            refuseNumberIf(draft.isSeated(person));
            int pew = takeNumber(0, draft.pews - 1);
            int at = takeNumber(0, draft.places - 1);
            refuseNumberIf(draft.sitterAt(pew, at) != NONE);
            if (fault == 0) {
                draft.people.pewOf[person] = pew;
                draft.people.placeOf[person] = at;
            }
        }

        private void readHat() {
            if (draft.hats >= MOST_HATS) {
                refuse(TOO_MANY, place);
            }
            takeWord("hat");
            int inches = takeNumber(0, 30);
            if (fault == 0) {
                draft.hatHigh[draft.hats] = inches;
                draft.hats++;
            }
        }

        private void readWears() {
            takeWord("wears");
            int person = takeNumber(0, draft.people.many - 1);
            refuseNumberIf(fault == 0 && draft.people.hatOf[person] != NONE);
            int hat = takeNumber(0, draft.hats - 1);
            refuseNumberIf(draft.wearerOf(hat) != NONE);
            if (fault == 0) {
                draft.people.hatOf[person] = hat;
            }
        }

        private void readBook() {
            if (draft.books >= MOST_BOOKS) {
                refuse(TOO_MANY, place);
            }
            takeWord("book");
            int inches = takeNumber(1, 30);
            if (fault == 0) {
                draft.bookHigh[draft.books] = inches;
                draft.books++;
            }
        }

        private void readStands() {
            takeWord("stands");
            int person = takeNumber(0, draft.people.many - 1);
            int book = takeNumber(0, draft.books - 1);
            refuseNumberIf(fault == 0 && draft.standsOn[book] != NONE);
            if (fault == 0) {
                draft.standsOn[book] = person;
            }
        }

        private void takeWord(String word) {
            if (!isWord(word)) {
                refuse(MISPLACED, place);
            }
            advance();
        }

        private void takeSign() {
            if (kind != SIGN) {
                refuse(MISPLACED, place);
            }
            advance();
        }

        /** The number that stands here; NONE with a fault, here or ahead. */
        private int takeNumber(int least, int greatest) {
            if (kind != NUMBER) {
                refuse(MISPLACED, place);
            } else if (value < least || value > greatest) {
                refuse(WRONG_NUMBER, place);
            }
            int number = fault == 0 ? value : NONE;
            numberPlace = place;
            advance();
            return number;
        }

        private void refuseNumberIf(boolean wrong) {
            if (wrong) {
                refuse(WRONG_NUMBER, numberPlace);
            }
        }

        /** Only the first fault counts; reading goes from place to place, so it is the one that is found first. */
        private void refuse(int which, int where) {
            if (fault == 0) {
                fault = which;
                faultPlace = where;
            }
        }

        private boolean isWord(String word) {
            if (kind != WORD || next - place != word.length()) {
                return false;
            }
            for (int i = 0; i < word.length(); i++) {
                if (tape.bytes[place + i] != word.charAt(i)) {
                    return false;
                }
            }
            return true;
        }

        private void advance() {
            while (next < tape.length && (tape.bytes[next] == ' ' || tape.bytes[next] == '\n')) {
                next++;
            }
            place = next;
            if (next >= tape.length) {
                kind = AT_END;
            } else if (isLetter(tape.bytes[next])) {
                kind = WORD;
                while (next < tape.length && isLetter(tape.bytes[next])) {
                    next++;
                }
            } else if (isDigit(tape.bytes[next])) {
                kind = NUMBER;
                value = 0;
                while (next < tape.length && isDigit(tape.bytes[next])) {
                    value = Math.min(HUGE, 10 * value + tape.bytes[next] - '0');
                    next++;
                }
            } else {
                kind = tape.bytes[next] == ';' ? SIGN : STRANGE;
                next++;
            }
        }

        private static boolean isLetter(byte sign) {
            return sign >= 'a' && sign <= 'z';
        }

        private static boolean isDigit(byte sign) {
            return sign >= '0' && sign <= '9';
        }
    }

    /** Who belongs to a church. */
    private static final class People {
        final int[] tall = new int[MOST_PEOPLE];
        final int[] grows = new int[MOST_PEOPLE];
        final int[] heel = new int[MOST_PEOPLE];
        final int[] pewOf = new int[MOST_PEOPLE];
        final int[] placeOf = new int[MOST_PEOPLE];
        final int[] hatOf = new int[MOST_PEOPLE];
        int many;

        void add(int itsTall, int itsGrows, int itsHeel) {
            if (many >= MOST_PEOPLE) {
                return;
            }
            tall[many] = itsTall;
            grows[many] = itsGrows;
            heel[many] = itsHeel;
            pewOf[many] = NONE;
            placeOf[many] = NONE;
            hatOf[many] = NONE;
            many++;
        }

        void copyOf(People other) {
            System.arraycopy(other.tall, 0, tall, 0, MOST_PEOPLE);
            System.arraycopy(other.grows, 0, grows, 0, MOST_PEOPLE);
            System.arraycopy(other.heel, 0, heel, 0, MOST_PEOPLE);
            System.arraycopy(other.pewOf, 0, pewOf, 0, MOST_PEOPLE);
            System.arraycopy(other.placeOf, 0, placeOf, 0, MOST_PEOPLE);
            System.arraycopy(other.hatOf, 0, hatOf, 0, MOST_PEOPLE);
            many = other.many;
        }
    }

    /** A church as it is; without lines there is none. */
    private static final class Church {
        int pews;
        int places;
        int level;
        boolean byAll;
        int lines;
        final int[] up = new int[MOST_PEWS];
        final int[] saws = new int[MOST_PEWS];
        final int[] sawn = new int[MOST_PEWS];
        final int[] trenches = new int[MOST_PEWS * MOST_PLACES];
        final People people = new People();
        int hats;
        final int[] hatHigh = new int[MOST_HATS];
        int books;
        final int[] bookHigh = new int[MOST_BOOKS];
        final int[] standsOn = new int[MOST_BOOKS];

        void clear() {
            pews = 0;
            places = 0;
            level = 0;
            byAll = false;
            lines = 0;
            Arrays.fill(up, 0);
            Arrays.fill(saws, 0);
            Arrays.fill(sawn, 0);
            Arrays.fill(trenches, 0);
            people.many = 0;
            hats = 0;
            books = 0;
            Arrays.fill(standsOn, NONE);
        }

        void copyOf(Church other) {
            pews = other.pews;
            places = other.places;
            level = other.level;
            byAll = other.byAll;
            lines = other.lines;
            System.arraycopy(other.up, 0, up, 0, MOST_PEWS);
            System.arraycopy(other.saws, 0, saws, 0, MOST_PEWS);
            System.arraycopy(other.sawn, 0, sawn, 0, MOST_PEWS);
            System.arraycopy(other.trenches, 0, trenches, 0, MOST_PEWS * MOST_PLACES);
            people.copyOf(other.people);
            hats = other.hats;
            System.arraycopy(other.hatHigh, 0, hatHigh, 0, MOST_HATS);
            books = other.books;
            System.arraycopy(other.bookHigh, 0, bookHigh, 0, MOST_BOOKS);
            System.arraycopy(other.standsOn, 0, standsOn, 0, MOST_BOOKS);
        }

        boolean isThere() {
            return lines > 0;
        }

        boolean hasPew(int pew) {
            return pew >= 0 && pew < pews;
        }

        boolean hasPlace(int pew, int place) {
            return pew >= 0 && pew < pews && place >= 0 && place < places;
        }

        boolean hasPerson(int person) {
            return person >= 0 && person < people.many;
        }

        boolean hasHat(int hat) {
            return hat >= 0 && hat < hats;
        }

        boolean hasBook(int book) {
            return book >= 0 && book < books;
        }

        boolean isSeated(int person) {
            return hasPerson(person) && people.pewOf[person] != NONE;
        }

        int trenchAt(int pew, int place) {
            return hasPlace(pew, place) ? trenches[pew * MOST_PLACES + place] : 0;
        }

        void dig(int pew, int place, int inches) {
            if (hasPlace(pew, place)) {
                trenches[pew * MOST_PLACES + place] = inches;
            }
        }

        int floorAt(int pew, int place) {
            return hasPlace(pew, place) ? up[pew] - trenches[pew * MOST_PLACES + place] - sawn[pew] : 0;
        }

        int floorUnder(int person) {
            return isSeated(person) ? floorAt(people.pewOf[person], people.placeOf[person]) : 0;
        }

        int sitterAt(int pew, int place) {
            for (int p = 0; p < people.many; p++) {
                if (isSeated(p) && people.pewOf[p] == pew && people.placeOf[p] == place) {
                    return p;
                }
            }
            return NONE;
        }

        int sittersOf(int pew) {
            int set = 0;
            for (int p = 0; p < people.many; p++) {
                if (isSeated(p) && people.pewOf[p] == pew) {
                    set |= 1 << p;
                }
            }
            return set;
        }

        int sitters() {
            int set = 0;
            for (int p = 0; p < people.many; p++) {
                if (isSeated(p)) {
                    set |= 1 << p;
                }
            }
            return set;
        }

        int sawnTogether() {
            int sum = 0;
            for (int pew = 0; pew < pews; pew++) {
                sum += sawn[pew];
            }
            return sum;
        }

        int wearerOf(int hat) {
            for (int p = 0; p < people.many; p++) {
                if (hat != NONE && people.hatOf[p] == hat) {
                    return p;
                }
            }
            return NONE;
        }

        int booksUnder(int person) {
            int set = 0;
            for (int book = 0; book < books; book++) {
                if (standsOn[book] == person) {
                    set |= 1 << book;
                }
            }
            return set;
        }

        int bodyHigh(int person, int year) {
            if (!hasPerson(person)) {
                return 0;
            }
            return people.tall[person] + year * people.grows[person] + people.heel[person];
        }

        int hatHighOf(int person) {
            return hasPerson(person) && hasHat(people.hatOf[person]) ? hatHigh[people.hatOf[person]] : 0;
        }

        int bookHighUnder(int person) {
            int sum = 0;
            for (int book = 0; book < books; book++) {
                if (standsOn[book] == person) {
                    sum += bookHigh[book];
                }
            }
            return sum;
        }

        /** How high one is, the floor aside. */
        int standingHigh(int person, int year) {
            return bodyHigh(person, year) + hatHighOf(person) + bookHighUnder(person);
        }

        int highOf(int person, int year) {
            return standingHigh(person, year) + floorUnder(person);
        }
    }

    /** How high all are at one time, and which of them must be level with one another; may be tried otherwise. */
    private static final class Heights {
        final int[] high = new int[MOST_PEOPLE];
        final int[] inPew = new int[MOST_PEWS];
        int sitting;
        boolean byAll;

        void take(Church church, int year) {
            Arrays.fill(inPew, 0);
            sitting = 0;
            byAll = church.byAll;
            for (int p = 0; p < church.people.many; p++) {
                int height = church.highOf(p, year);
                high[p] = height;
                if (church.isSeated(p)) {
                    put(p, church.people.pewOf[p], height);
                }
            }
        }

        void put(int person, int pew, int height) {
            high[person] = height;
            inPew[pew] |= 1 << person;
            sitting |= 1 << person;
        }

        void drop(int person) {
            int others = ~(1 << person);
            for (int pew = 0; pew < MOST_PEWS; pew++) {
                inPew[pew] &= others;
            }
            sitting &= others;
        }

        boolean isIn(int person) {
            return (sitting >> person & 1) != 0;
        }

        int lowestOf(int set) {
            int lowest = ABOVE_ALL;
            for (int p = 0; p < MOST_PEOPLE; p++) {
                if ((set >> p & 1) != 0) {
                    lowest = Math.min(lowest, high[p]);
                }
            }
            return lowest;
        }

        int tallestOf(int set) {
            int tallest = -ABOVE_ALL;
            for (int p = 0; p < MOST_PEOPLE; p++) {
                if ((set >> p & 1) != 0) {
                    tallest = Math.max(tallest, high[p]);
                }
            }
            return tallest;
        }

        int spreadOf(int set) {
            return set == 0 ? 0 : tallestOf(set) - lowestOf(set);
        }

        /** The least level by which those of a set are level: of all together, or of the worst row. */
        int apart(int set) {
            if (byAll) {
                return spreadOf(set);
            }
            int most = 0;
            for (int pew = 0; pew < MOST_PEWS; pew++) {
                most = Math.max(most, spreadOf(set & inPew[pew]));
            }
            return most;
        }

        /** Each grows by a draw; answers the x behind the last. */
        long growByDraws(long before, int people) {
            long x = before;
            for (int p = 0; p < people && p < MOST_PEOPLE; p++) {
                x = (1_103_515_245L * x + 12_345L) % 2_147_483_648L;
                high[p] += (int) (x / 65_536L % 10L);
            }
            return x;
        }
    }

    /**
     * What is sawn of each pew more. Of two sawings that make all level, the one that has the lesser of both at each
     * pew does so too: so there is one that is least at every pew, and with it the least sum and the least row.
     */
    private static final class Sawing {
        /** More turns than inches can be sawn of all pews. */
        private static final int TURNS = 40;
        /** No pew can be sawn by more. */
        private static final int MOST_SAWS = 9;

        final int[] more = new int[MOST_PEWS];
        private final int[] room = new int[MOST_PEWS];
        private final boolean[] taken = new boolean[MOST_PEWS];
        private final int[] low = new int[MOST_PEWS];
        private final int[] top = new int[MOST_PEWS];

        void begin(Church church) {
            for (int pew = 0; pew < MOST_PEWS; pew++) {
                more[pew] = 0;
                room[pew] = pew < church.pews ? church.saws[pew] - church.sawn[pew] : 0;
            }
        }

        int together() {
            int sum = 0;
            for (int pew = 0; pew < MOST_PEWS; pew++) {
                sum += more[pew];
            }
            return sum;
        }

        /** Saws the least beyond what it has sawn so that a set is level; whether that can be. */
        boolean settle(Heights heights, int set, int level) {
            if (!heights.byAll) {
                return heights.apart(set) <= level;
            }
            measure(heights, set);
            for (int turn = 0; turn < TURNS; turn++) {
                int ceiling = lowestNow() + level;
                boolean changed = false;
                for (int pew = 0; pew < MOST_PEWS; pew++) {
                    if (taken[pew] && top[pew] - more[pew] > ceiling) {
                        more[pew] = top[pew] - ceiling;
                        changed = true;
                        if (more[pew] > room[pew]) {
                            return false;
                        }
                    }
                }
                if (!changed) {
                    return true;
                }
            }
            return false;
        }

        int countWays(Heights heights, Church church) {
            measure(heights, heights.sitting);
            int freeWays = 1;
            boolean allFree = true;
            for (int pew = 0; pew < MOST_PEWS; pew++) {
                if (church.byAll && taken[pew]) {
                    allFree = false;
                } else {
                    freeWays *= room[pew] + 1;
                }
            }
            if (allFree) {
                return heights.apart(heights.sitting) <= church.level ? freeWays : 0;
            }
            return freeWays * countTakenWays(church.level);
        }

        /** By the lowest of all: those whose lowest is just so low, and who are no higher than level lets. */
        private int countTakenWays(int level) {
            int sum = 0;
            int highest = lowestNow();
            for (int lowest = highest - MOST_SAWS; lowest <= highest; lowest++) {
                sum += waysBetween(lowest, lowest + level) - waysBetween(lowest + 1, lowest + level);
            }
            return sum;
        }

        private int waysBetween(int lowest, int highest) {
            int product = 1;
            for (int pew = 0; pew < MOST_PEWS; pew++) {
                if (taken[pew]) {
                    int from = Math.max(0, top[pew] - highest);
                    int to = Math.min(room[pew], low[pew] - lowest);
                    product *= Math.max(0, to - from + 1);
                }
            }
            return product;
        }

        private void measure(Heights heights, int set) {
            for (int pew = 0; pew < MOST_PEWS; pew++) {
                int here = set & heights.inPew[pew];
                taken[pew] = here != 0;
                low[pew] = taken[pew] ? heights.lowestOf(here) : 0;
                top[pew] = taken[pew] ? heights.tallestOf(here) : 0;
            }
        }

        /** The lowest of the set as it is sawn; 0 for an empty one, of which nothing is asked. */
        private int lowestNow() {
            int lowest = 0;
            boolean any = false;
            for (int pew = 0; pew < MOST_PEWS; pew++) {
                if (taken[pew] && (!any || low[pew] - more[pew] < lowest)) {
                    lowest = low[pew] - more[pew];
                    any = true;
                }
            }
            return lowest;
        }
    }

    /** Those who sit, by how high they are without floors, put into groups from the lowest on. */
    private static final class Groups {
        private final int[] sorted = new int[MOST_PEOPLE];
        private int many;

        void take(Church church, int year) {
            many = 0;
            for (int p = 0; p < church.people.many; p++) {
                if (church.isSeated(p)) {
                    sortIn(church.standingHigh(p, year));
                }
            }
        }

        private void sortIn(int height) {
            if (many >= MOST_PEOPLE) {
                return;
            }
            int at = many;
            while (at > 0 && sorted[at - 1] > height) {
                sorted[at] = sorted[at - 1];
                at--;
            }
            sorted[at] = height;
            many++;
        }

        int widest() {
            return many == 0 ? 0 : sorted[many - 1] - sorted[0];
        }

        /** The lowest needs a group, and whoever fits may as well be in it, the lowest ahead. */
        int fewest(int level, int places) {
            int found = 0;
            int inGroup = 0;
            int lowest = 0;
            for (int i = 0; i < many; i++) {
                if (found == 0 || inGroup >= places || sorted[i] - lowest > level) {
                    found++;
                    inGroup = 0;
                    lowest = sorted[i];
                }
                inGroup++;
            }
            return found;
        }
    }

    /** Books given person by person; a way is left as soon as those who have been looked at are not level. */
    private static final class BookSearch {
        private static final int SETS = 32;
        /** A row of owners is a number of nines: 0 nobody, else the person and 1; book 0 has the highest place. */
        private static final int ROWS = 59_049;
        private static final int[] WEIGHT = {6_561, 729, 81, 9, 1};

        int found;
        private final Church church;
        private final int[] base = new int[MOST_PEOPLE];
        private final int[] setHigh = new int[SETS];
        private final int[] setWeight = new int[SETS];
        private final int[] low = new int[MOST_PEWS];
        private final int[] top = new int[MOST_PEWS];
        /** How many are given, times ROWS, and the row of owners: the least; NONE without. */
        private int best;

        BookSearch(Church church) {
            this.church = church;
        }

        void findAll(int year) {
            begin(year);
            give(0, (1 << church.books) - 1, 0, church.books);
        }

        void findFewest(int year) {
            begin(year);
            for (int most = 0; most <= church.books && best == NONE; most++) {
                give(0, (1 << church.books) - 1, 0, most);
            }
        }

        int fewest() {
            return best == NONE ? NONE : best / ROWS;
        }

        int ownerOf(int book) {
            if (best == NONE) {
                return NONE;
            }
            int row = best;
            for (int later = MOST_BOOKS - 1; later > book; later--) {
                row /= 9;
            }
            return row % 9 - 1;
        }

        private void begin(int year) {
            found = 0;
            best = NONE;
            for (int p = 0; p < church.people.many; p++) {
                base[p] = church.highOf(p, year) - church.bookHighUnder(p);
            }
            for (int set = 0; set < SETS; set++) {
                setHigh[set] = 0;
                setWeight[set] = 0;
                for (int book = 0; book < church.books; book++) {
                    if ((set >> book & 1) != 0) {
                        setHigh[set] += church.bookHigh[book];
                        setWeight[set] += WEIGHT[book];
                    }
                }
            }
            Arrays.fill(low, ABOVE_ALL);
            Arrays.fill(top, -ABOVE_ALL);
        }

        /** The depth is the person, of whom there are at most eight. */
        private void give(int person, int left, int key, int most) {
            if (person >= church.people.many) {
                found++;
                best = best == NONE ? key : Math.min(best, key);
                return;
            }
            if (!church.isSeated(person)) {
                give(person + 1, left, key, most);
                return;
            }
            int group = church.byAll ? 0 : church.people.pewOf[person];
            int lowWas = low[group];
            int topWas = top[group];
            for (int set = 0; set <= left; set++) {
                int many = Integer.bitCount(set);
                if ((set & ~left) != 0 || many > most) {
                    continue;
                }
                int height = base[person] + setHigh[set];
                low[group] = Math.min(lowWas, height);
                top[group] = Math.max(topWas, height);
                if (top[group] - low[group] <= church.level) {
                    int itsKey = key + many * ROWS + (person + 1) * setWeight[set];
                    give(person + 1, left & ~set, itsKey, most - many);
                }
            }
            low[group] = lowWas;
            top[group] = topWas;
        }
    }

    /** Hats handed person by person, lesser ones first; a way is left as soon as those looked at are not level. */
    private static final class HatSearch {
        final int[] handedTo = new int[MOST_PEOPLE];
        int found;
        private final Church church;
        private final int[] trial = new int[MOST_PEOPLE];
        private final int[] base = new int[MOST_PEOPLE];
        private final int[] low = new int[MOST_PEWS];
        private final int[] top = new int[MOST_PEWS];
        private boolean all;

        HatSearch(Church church) {
            this.church = church;
        }

        /** All ways, or the first alone. */
        void find(int year, boolean allWays) {
            found = 0;
            all = allWays;
            for (int p = 0; p < church.people.many; p++) {
                base[p] = church.highOf(p, year) - church.hatHighOf(p);
            }
            Arrays.fill(trial, NONE);
            Arrays.fill(low, ABOVE_ALL);
            Arrays.fill(top, -ABOVE_ALL);
            if (Integer.bitCount(church.sitters()) <= church.hats) {
                hand(0, (1 << church.hats) - 1);
            }
        }

        /** The depth is the person, of whom there are at most eight. */
        private void hand(int person, int free) {
            if (person >= church.people.many) {
                if (found == 0) {
                    System.arraycopy(trial, 0, handedTo, 0, MOST_PEOPLE);
                }
                found++;
                return;
            }
            if (!church.isSeated(person)) {
                hand(person + 1, free);
                return;
            }
            int group = church.byAll ? 0 : church.people.pewOf[person];
            int lowWas = low[group];
            int topWas = top[group];
            for (int hat = 0; hat < church.hats && (all || found == 0); hat++) {
                if ((free >> hat & 1) == 0) {
                    continue;
                }
                int height = base[person] + church.hatHigh[hat];
                low[group] = Math.min(lowWas, height);
                top[group] = Math.max(topWas, height);
                if (top[group] - low[group] <= church.level) {
                    trial[person] = hat;
                    hand(person + 1, free & ~(1 << hat));
                }
            }
            low[group] = lowWas;
            top[group] = topWas;
        }

        /** How many rings lead from what is worn to what is handed; or how long the longest is. */
        int ringsOf(boolean longest) {
            int many = 0;
            int most = 0;
            for (int p = 0; p < church.people.many; p++) {
                int length = ringFrom(p);
                many += length > 0 ? 1 : 0;
                most = Math.max(most, length);
            }
            return longest ? most : many;
        }

        /** How long the ring is of which one is the least; 0 without. */
        private int ringFrom(int start) {
            int person = start;
            for (int length = 1; length <= MOST_PEOPLE; length++) {
                person = nextOf(person);
                if (person < start) {
                    return 0;
                }
                if (person == start) {
                    return length > 1 ? length : 0;
                }
            }
            return 0;
        }

        /** Who gets the hat of one, of those who sit and wear one; NONE without. */
        private int nextOf(int person) {
            if (!isCovered(person)) {
                return NONE;
            }
            for (int p = 0; p < church.people.many; p++) {
                if (isCovered(p) && handedTo[p] == church.people.hatOf[person]) {
                    return p;
                }
            }
            return NONE;
        }

        private boolean isCovered(int person) {
            return church.isSeated(person) && church.people.hatOf[person] != NONE;
        }
    }

    /** What a row tells of who was where, how high. */
    private static final class Sightings {
        private static final int EACH = 3;
        private static final int SETS = 256;

        private int many;
        private int people;
        /** Of each sighting those whom it fits; beyond the people nobody is left, so nothing is kept. */
        private final int[] fits = new int[MOST_PEOPLE];
        /** By how many ways just a set is at as many first sightings as it has people. */
        private final int[] waysOf = new int[SETS];

        /** Whether the row tells places, each once. */
        boolean take(Row row, Church church, int year) {
            if (row.many % EACH != 0) {
                return false;
            }
            many = row.many / EACH;
            people = church.people.many;
            int told = 0;
            for (int i = 0; i < many; i++) {
                if (!isPlace(row, church, i)) {
                    return false;
                }
                int bit = 1 << pewOf(row, i) * MOST_PLACES + placeOf(row, i);
                if ((told & bit) != 0) {
                    return false;
                }
                told |= bit;
                if (i < MOST_PEOPLE) {
                    fits[i] = fitting(row, church, year, i);
                }
            }
            return true;
        }

        int countWays() {
            if (many > people) {
                return 0;
            }
            int sets = 1 << people;
            Arrays.fill(waysOf, 0);
            waysOf[0] = 1;
            for (int i = 0; i < many; i++) {
                for (int set = 0; set < sets; set++) {
                    if (Integer.bitCount(set) == i + 1) {
                        waysOf[set] = waysInto(set, fits[i]);
                    }
                }
            }
            int sum = 0;
            for (int set = 0; set < sets; set++) {
                sum += Integer.bitCount(set) == many ? waysOf[set] : 0;
            }
            return sum;
        }

        private int waysInto(int set, int fitting) {
            int sum = 0;
            for (int p = 0; p < people; p++) {
                if ((set & fitting & 1 << p) != 0) {
                    sum += waysOf[set & ~(1 << p)];
                }
            }
            return sum;
        }

        int surelyAt(int i) {
            if (i < 0 || i >= many || many > people) {
                return NONE;
            }
            int fitting = fits[i];
            int only = NONE;
            for (int p = 0; p < people; p++) {
                fits[i] = fitting & 1 << p;
                if (fits[i] != 0 && countWays() > 0) {
                    if (only != NONE) {
                        return NONE;
                    }
                    only = p;
                }
            }
            return only;
        }

        int firstOdd(Row row, Church church, int year) {
            for (int i = 0; i < many; i++) {
                int sitter = church.sitterAt(pewOf(row, i), placeOf(row, i));
                if (sitter == NONE || church.highOf(sitter, year) != row.numbers[EACH * i + 2]) {
                    return i;
                }
            }
            return NONE;
        }

        private static boolean isPlace(Row row, Church church, int i) {
            long pew = row.numbers[EACH * i];
            long place = row.numbers[EACH * i + 1];
            return pew >= 0 && pew < church.pews && place >= 0 && place < church.places;
        }

        private static int pewOf(Row row, int i) {
            return (int) row.numbers[EACH * i];
        }

        private static int placeOf(Row row, int i) {
            return (int) row.numbers[EACH * i + 1];
        }

        private static int fitting(Row row, Church church, int year, int i) {
            int floor = church.floorAt(pewOf(row, i), placeOf(row, i));
            int set = 0;
            for (int p = 0; p < church.people.many; p++) {
                if (church.standingHigh(p, year) + floor == row.numbers[EACH * i + 2]) {
                    set |= 1 << p;
                }
            }
            return set;
        }
    }

    /** Numbers of one width, or nothing. */
    private static final class Row {
        final long[] numbers = new long[MOST_NUMBERS];
        boolean there;
        int width;
        int many;

        void begin(int itsWidth, int n) {
            there = true;
            width = itsWidth;
            many = n;
            Arrays.fill(numbers, 0L);
        }

        long cutToWidth(long v) {
            switch (width) {
                case 0: return (byte) v;
                case 1: return (short) v;
                case 2: return (int) v;
                default: return v;
            }
        }

        /** Whether n numbers stand from i on; both may be at the row's end. */
        boolean holds(int i, int n) {
            return i >= 0 && n >= 0 && i <= many && n <= many - i;
        }
    }
}
