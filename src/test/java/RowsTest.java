/** Promise by promise, 50 to 61, at their edges: what was seen, years drawn, images, rows. */
public final class RowsTest {
    private static final String LARGE = "church pews 4 places 5 level 30 by all;";
    /** Person 0 is 170 on the floor, 1 is 171, 2 is 170; nobody sits. */
    private static final String THREE = "church pews 2 places 3 level 0 by row; person tall 170 grows 1 heel 0;"
            + "person tall 171 grows 0 heel 0; person tall 170 grows 0 heel 0;";

    private static final Checks CHECKS = new Checks("RowsTest");

    public static void main(String[] args) {
        seenPlaces();
        seenWays();
        seenWith();
        seenOrder();
        sure();
        odd();
        draws();
        drawnFirst();
        years();
        counts();
        images();
        imagesKeepAll();
        rows();
        writes();
        widths();
        pasteRefused();
        pasteEnds();
        pasteOverItself();
        CHECKS.finish();
    }

    private static void due(String call, long got, long want) {
        CHECKS.due(call, got, want);
    }

    private static void fill(LevelSunday x, int slot, int width, long... numbers) {
        due("row", x.row(slot, width, numbers.length), 0);
        for (int i = 0; i < numbers.length; i++) {
            due("write", x.write(slot, i, numbers[i]), 0);
        }
    }

    private static int seenAt(LevelSunday x, int width, long... numbers) {
        fill(x, 0, width, numbers);
        int seen = x.seen(0, 0);
        due("sure is refused likewise", x.sure(0, 0, 0) == -2 ? 1 : 0, seen == -2 ? 1 : 0);
        due("odd is refused likewise", x.odd(0, 0) == -2 ? 1 : 0, seen == -2 ? 1 : 0);
        return seen;
    }

    private static void seenPlaces() {
        LevelSunday x = Checks.church(THREE);
        due("the first place", seenAt(x, 1, 0, 0, 171), 1);
        due("the last place", seenAt(x, 1, 1, 2, 171), 1);
        due("a pew beyond", seenAt(x, 1, 2, 0, 171), -2);
        due("a pew below", seenAt(x, 1, -1, 0, 171), -2);
        due("a place beyond", seenAt(x, 1, 0, 3, 171), -2);
        due("a place below", seenAt(x, 1, 0, -1, 171), -2);
        due("the second is none", seenAt(x, 1, 0, 0, 171, 2, 2, 171), -2);
        due("one place twice", seenAt(x, 1, 1, 2, 171, 1, 2, 170), -2);
        due("one place twice, apart", seenAt(x, 1, 1, 2, 171, 0, 0, 9, 1, 2, 171), -2);
        due("one pew, two places", seenAt(x, 1, 1, 1, 171, 1, 2, 170), 2);
        due("one place, two pews", seenAt(x, 1, 0, 2, 171, 1, 2, 170), 2);
        due("one number", seenAt(x, 1, 0), -2);
        due("two numbers", seenAt(x, 1, 0, 0), -2);
        due("four numbers", seenAt(x, 1, 0, 0, 171, 0), -2);
        due("five numbers", seenAt(x, 1, 0, 0, 171, 0, 1), -2);
        due("no numbers", seenAt(x, 1), 1);
        due("a pew far beyond", seenAt(x, 3, 1L << 32, 0, 171), -2);
        due("a place far beyond", seenAt(x, 3, 0, 1L << 32, 171), -2);
        due("a pew far below", seenAt(x, 3, Long.MIN_VALUE, 0, 171), -2);
        LevelSunday large = Checks.church(LARGE + "person tall 170 grows 0 heel 0;");
        due("pew 3, place 4", seenAt(large, 0, 3, 4, 0), 0);
        long[] all = new long[60];
        for (int i = 0; i < 20; i++) {
            all[3 * i] = 3 - i / 5;
            all[3 * i + 1] = i % 5;
        }
        due("sixty numbers", seenAt(large, 1, all), 0);
        all[58] = 1;
        due("sixty numbers, the last place told", seenAt(large, 1, all), -2);
        all[58] = 5;
        due("sixty numbers, the last place none", seenAt(large, 1, all), -2);
    }

    private static void seenWays() {
        LevelSunday x = Checks.church("church pews 2 places 5 level 0 by row;"
                + "person tall 170 grows 0 heel 0;".repeat(8));
        long[] row = new long[27];
        for (int i = 0; i < 9; i++) {
            row[3 * i] = i / 5;
            row[3 * i + 1] = i % 5;
            row[3 * i + 2] = 170;
        }
        due("nine places, eight people", seenAt(x, 1, row), 0);
        due("of nine nobody", x.sure(0, 0, 0), -1);
        int ways = 1;
        for (int many = 1; many <= 8; many++) {
            ways *= 9 - many;
            due(many + " places, eight people alike", seenAt(x, 1, java.util.Arrays.copyOf(row, 3 * many)), ways);
        }
        due("not the same", x.sure(0, 0, 7), -1);
        LevelSunday nobody = Checks.church("church pews 1 places 1 level 0 by row;");
        due("no people", seenAt(nobody, 1, 0, 0, 170), 0);
        due("no people, sure", nobody.sure(0, 0, 0), -1);
        due("no people, odd", nobody.odd(0, 0), 0);
        due("no people, no numbers", seenAt(nobody, 1), 1);
    }

    /** With hats, heels, books, floors; whoever sits where. */
    private static void seenWith() {
        LevelSunday x = Checks.church("church pews 2 places 2 level 0 by all; pew 1 down 7 saws 9; trench 1 1 60;"
                + "person tall 170 grows 3 heel 9; hat 30; wears 0 0; book 30; book 1; stands 0 0; stands 0 1;"
                + "sits 0 0 0;");
        due("as he is", seenAt(x, 1, 0, 1, 240), 1);
        due("at another's floor", seenAt(x, 1, 1, 0, 233), 1);
        due("in a trench", seenAt(x, 1, 1, 1, 173), 1);
        due("sawn", x.cut(1, 9), 9);
        due("not so any more", x.seen(0, 0), 0);
        due("sawn, in a trench", seenAt(x, 1, 1, 1, 164), 1);
        due("in year 30", x.seen(0, 30), 0);
        fill(x, 1, 1, 1, 1, 254);
        due("in year 30", x.seen(1, 30), 1);
        x.wears(0, -1);
        due("without a hat", seenAt(x, 1, 0, 1, 210), 1);
        x.stands(-1, 0);
        due("with one book", seenAt(x, 1, 0, 1, 180), 1);
        x.sits(0, -1, 0);
        due("who sits nowhere", seenAt(x, 1, 0, 1, 180), 1);
    }

    /** No church, no such slot or year are asked ahead of nothing there, the row's places behind. */
    private static void seenOrder() {
        LevelSunday none = new LevelSunday();
        due("no church, nothing", none.seen(0, 0), -2);
        fill(none, 0, 1);
        due("no church, a row", none.seen(0, 0), -2);
        due("no church, sure", none.sure(0, 0, 0), -2);
        due("no church, odd", none.odd(0, 0), -2);
        LevelSunday x = Checks.church(THREE);
        for (int slot = 0; slot < 4; slot++) {
            due("nothing, seen", x.seen(slot, 30), -6);
            due("nothing, sure", x.sure(slot, 0, -1), -6);
            due("nothing, odd", x.odd(slot, 0), -6);
        }
        for (int slot : new int[] {-1, 4, Integer.MIN_VALUE, Integer.MAX_VALUE}) {
            due("no such slot, seen", x.seen(slot, 0), -2);
            due("no such slot, sure", x.sure(slot, 0, 0), -2);
            due("no such slot, odd", x.odd(slot, 0), -2);
        }
        for (int year : new int[] {-1, 31}) {
            due("no such year, seen", x.seen(3, year), -2);
            due("no such year, sure", x.sure(3, year, 0), -2);
            due("no such year, odd", x.odd(3, year), -2);
        }
        fill(x, 3, 3, 0, 0, 170);
        due("the last slot", x.seen(3, 0), 2);
        due("in year 1 one", x.seen(3, 1), 1);
        due("in year 30 one", x.seen(3, 30), 1);
    }

    private static void sure() {
        LevelSunday x = Checks.church(THREE);
        fill(x, 0, 1, 0, 0, 170, 0, 1, 171);
        due("two ways", x.seen(0, 0), 2);
        due("not the same", x.sure(0, 0, 0), -1);
        due("the same", x.sure(0, 0, 1), 1);
        due("not so many", x.sure(0, 0, 2), -1);
        due("none below", x.sure(0, 0, -1), -1);
        due("far beyond", x.sure(0, 0, Integer.MAX_VALUE), -1);
        due("far below", x.sure(0, 0, Integer.MIN_VALUE), -1);
        due("in year 1", x.sure(0, 1, 0), 2);
        // In year 1 two are 171: the other number tells which, as people are unlike.
        fill(x, 1, 1, 0, 0, 171, 1, 0, 171, 1, 1, 170);
        due("in year 1", x.seen(1, 1), 2);
        due("in year 1, the last", x.sure(1, 1, 2), 2);
        due("in year 1, one of two", x.sure(1, 1, 0), -1);
        due("in year 1, the other", x.sure(1, 1, 1), -1);
        due("there are none", x.sure(1, 0, 2), -1);
        LevelSunday y = Checks.church("church pews 1 places 2 level 0 by row; trench 0 1 1;"
                + "person tall 170 grows 0 heel 0; person tall 171 grows 0 heel 0;");
        fill(y, 0, 1, 0, 0, 170, 0, 1, 170);
        due("by another number", y.sure(0, 0, 0), 0);
        due("by another number", y.sure(0, 0, 1), 1);
        fill(y, 1, 1);
        due("of no numbers", y.sure(1, 0, 0), -1);
    }

    private static void odd() {
        LevelSunday x = Checks.church(THREE);
        x.sits(1, 1, 2);
        fill(x, 0, 1, 1, 2, 171);
        due("all are", x.odd(0, 0), -1);
        due("all are in 30", x.odd(0, 30), -1);
        fill(x, 0, 1, 1, 2, 170);
        due("another height", x.odd(0, 0), 0);
        fill(x, 0, 1, 1, 2, 171, 0, 0, 170);
        due("nobody is there", x.odd(0, 0), 1);
        fill(x, 0, 1, 0, 0, 0);
        due("nobody is there, and nothing high", x.odd(0, 0), 0);
        fill(x, 0, 1, 1, 2, 171, 0, 0, 170);
        x.sits(2, 0, 0);
        due("one like that is", x.odd(0, 0), -1);
        x.change(1, 2);
        due("changed", x.odd(0, 0), 0);
        x.change(1, 2);
        due("in year 1", x.odd(0, 1), -1);
        due("whoever sits where", x.seen(0, 1), 2);
        x.sits(0, 0, 1);
        fill(x, 0, 1, 1, 2, 171, 0, 0, 170, 0, 1, 170);
        due("in year 0", x.odd(0, 0), -1);
        due("in year 1", x.odd(0, 1), 2);
        fill(x, 0, 1);
        due("of no numbers", x.odd(0, 0), -1);
        fill(x, 0, 3, 1, 2, 171 + (1L << 32));
        due("eight bytes are compared", x.odd(0, 0), 0);
    }

    private static void draws() {
        // From 0 the draws are 0, 8, 8, 7 (x: 12345; 1406932606; 654583775; 1449466924).
        LevelSunday x = Checks.church(THREE + "sits 0 0 0; pew 0 up 9 saws 0; hat 2; wears 1 0;");
        due("year 0: as they are", x.grown(0, 0, 0), 179);
        due("year 0: as they are", x.grown(0, 1, 0), 173);
        due("one who sits", x.grown(0, 0, 1), 179);
        due("one who sits nowhere has a draw too", x.grown(0, 1, 1), 181);
        due("the third", x.grown(0, 2, 1), 178);
        due("the next year", x.grown(0, 0, 2), 186);
        due("grown(0, 3, 0)", x.grown(0, 3, 0), -1000);
        due("grown(0, -1, 0)", x.grown(0, -1, 0), -1000);
        due("grown(0, 0, -1)", x.grown(0, 0, -1), -1000);
        due("grown(0, 0, 31)", x.grown(0, 0, 31), -1000);
        due("grown(-1, 0, 0)", x.grown(-1, 0, 0), -1000);
        due("grown(MIN, 0, 0)", x.grown(Integer.MIN_VALUE, 0, 0), -1000);
        due("grown(2000000000, 0, 0)", x.grown(2_000_000_000, 0, 0), 179);
        // 2,000,000,000 x 1,103,515,245 + 12,345 modulo 2^31.
        long last = (2_000_000_000L * 1_103_515_245L + 12_345L) % (1L << 31);
        due("grown(2000000000, 0, 1)", x.grown(2_000_000_000, 0, 1), 179 + last / 65_536 % 10);
        due("grown(2000000001, 0, 0)", x.grown(2_000_000_001, 0, 0), -1000);
        due("without a church", new LevelSunday().grown(0, 0, 0), -1000);
        long y = 12;
        long high = 179;
        for (int year = 1; year <= 30; year++) {
            for (int p = 0; p < 3; p++) {
                y = (y * 1_103_515_245L + 12_345L) % (1L << 31);
                high += p == 0 ? y / 65_536 % 10 : 0;
            }
        }
        due("grown(12, 0, 30)", x.grown(12, 0, 30), high);
    }

    private static void drawnFirst() {
        LevelSunday x = Checks.church(THREE + "sits 0 0 0; sits 2 0 1;");
        // By 0, 8, 8 in year 1: eight apart, level in year 0.
        due("in year 1", x.drawn(0), 1);
        x.law(7);
        due("by one inch", x.drawn(0), 1);
        x.law(8);
        due("not in year 1", x.drawn(0) == 1 ? 1 : 0, 0);
        x.trench(0, 0, 9);
        due("in year 0", x.drawn(0), 0);
        due("drawn(-1)", x.drawn(-1), -2);
        due("drawn(2000000001)", x.drawn(2_000_000_001), -2);
        due("drawn(MAX)", x.drawn(Integer.MAX_VALUE), -2);
        due("drawn(2000000000)", x.drawn(2_000_000_000), 0);
        x.sits(2, -1, 0);
        due("one alone always is", x.drawn(0), -1);
        due("one alone always is", x.drawn(2_000_000_000), -1);
        due("without a church", new LevelSunday().drawn(0), -2);
        // The last year counts: some seed is level up to 29 alone.
        LevelSunday y = Checks.church("church pews 1 places 2 level 30 by all; person tall 170 grows 9 heel 0;"
                + "person tall 170 grows 0 heel 0; sits 0 0 0; sits 1 0 1;");
        int seed = 0;
        while (apartFirst(seed, 30) != 30) {
            seed++;
        }
        due("in year 30, from " + seed, y.drawn(seed), 30);
        due("level up to 29", y.years(seed, 1, 29), 1);
        due("not up to 30", y.years(seed, 1, 30), 0);
    }

    /** The first year in which two of one height, who grow by draws, are further apart; -1 without. */
    private static int apartFirst(long seed, int inches) {
        long x = seed;
        long apart = 0;
        for (int year = 1; year <= 30; year++) {
            x = (x * 1_103_515_245L + 12_345L) % (1L << 31);
            apart += x / 65_536 % 10;
            x = (x * 1_103_515_245L + 12_345L) % (1L << 31);
            apart -= x / 65_536 % 10;
            if (Math.abs(apart) > inches) {
                return year;
            }
        }
        return -1;
    }

    private static void years() {
        LevelSunday x = Checks.church("church pews 1 places 2 level 9 by all; person tall 170 grows 9 heel 0;"
                + "person tall 170 grows 0 heel 0; sits 0 0 0; sits 1 0 1;");
        for (int n : new int[] {1, 2, 19, 20}) {
            for (int year : new int[] {0, 1, 3, 30}) {
                for (int seed : new int[] {0, 77, 2_000_000_000}) {
                    int level = 0;
                    for (int i = 0; i < n; i++) {
                        int first = apartFirst((long) seed + i, 9);
                        level += first == -1 || first > year ? 1 : 0;
                    }
                    due("years(" + seed + ", " + n + ", " + year + ")", x.years(seed, n, year), level);
                }
            }
        }
        due("years(0, 0, 0)", x.years(0, 0, 0), -2);
        due("years(0, 21, 0)", x.years(0, 21, 0), -2);
        due("years(0, -1, 0)", x.years(0, -1, 0), -2);
        due("years(0, MAX, 0)", x.years(0, Integer.MAX_VALUE, 0), -2);
        due("years(-1, 1, 0)", x.years(-1, 1, 0), -2);
        due("years(2000000001, 1, 0)", x.years(2_000_000_001, 1, 0), -2);
        due("years(0, 1, -1)", x.years(0, 1, -1), -2);
        due("years(0, 1, 31)", x.years(0, 1, 31), -2);
        due("without a church", new LevelSunday().years(0, 1, 0), -2);
    }

    private static void counts() {
        LevelSunday x = Checks.church("church pews 4 places 5 level 30 by all; pew 0 up 0 saws 9; pew 1 up 0 saws 9;"
                + "pew 2 up 0 saws 9; pew 3 up 0 saws 9;" + "person tall 100 grows 0 heel 0;".repeat(8)
                + "hat 0;".repeat(8) + "book 1;".repeat(5));
        int[] most = {4, 5, 30, 1, 8, 255, 8, 5, 26, 20, 36, 4};
        for (int p = 0; p < 8; p++) {
            x.sits(p, p / 5, p % 5);
        }
        for (int i = 0; i < 4; i++) {
            x.cut(i, 9);
            x.row(i, i, 60);
        }
        x.feed(0, 0, 0, 0, 0);
        for (int what = 0; what < most.length; what++) {
            due("count(" + what + ")", x.count(what), most[what]);
        }
        for (int what : new int[] {-1, 12, Integer.MIN_VALUE, Integer.MAX_VALUE}) {
            due("count(" + what + ")", x.count(what), -1);
        }
        LevelSunday y = Checks.church("church pews 1 places 1 level 0 by row;");
        int[] least = {1, 1, 0, 0, 0, 0, 0, 0, 1, 0, 0, 0};
        for (int what = 0; what < least.length; what++) {
            due("of the least count(" + what + ")", y.count(what), least[what]);
        }
        x.end(0);
        due("a church of no lines", x.church(), 0);
        for (int what = 0; what < 11; what++) {
            due("without a church count(" + what + ")", x.count(what), 0);
        }
        due("slots stay", x.count(11), 4);
    }

    private static void images() {
        LevelSunday x = Checks.church(THREE);
        for (int k : new int[] {-1, 3, Integer.MIN_VALUE, Integer.MAX_VALUE}) {
            due("image(" + k + ")", x.image(k), -2);
            due("back(" + k + ")", x.back(k), -2);
        }
        for (int k = 0; k < 3; k++) {
            due("back(" + k + ") has nothing", x.back(k), -6);
        }
        for (int k = 0; k < 3; k++) {
            x.law(10 + k);
            due("image(" + k + ")", x.image(k), 0);
            due("it stays as it is", x.count(2), 10 + k);
        }
        for (int k = 2; k >= 0; k--) {
            due("back(" + k + ")", x.back(k), 0);
            due("as image " + k + " has it", x.count(2), 10 + k);
        }
        x.law(20);
        due("back(1)", x.back(1), 0);
        due("the image stayed", x.count(2), 11);
        x.law(5);
        due("image(1) anew", x.image(1), 0);
        x.law(6);
        due("back(1)", x.back(1), 0);
        due("the later image", x.count(2), 5);
        due("an empty tape", x.church(), 0);
        due("image(2) of none", x.image(2), 0);
        due("back(0)", x.back(0), 0);
        due("there is one", x.count(8), 4);
        due("back(2)", x.back(2), 0);
        due("there is none", x.level(0), -2);
        due("there is none", x.person(0, 0), -2);
        due("there is none", x.count(8), 0);
        due("back(1)", x.back(1), 0);
        due("there is one", x.level(0), 1);
        LevelSunday fresh = new LevelSunday();
        due("image of none", fresh.image(0), 0);
        due("back to none", fresh.back(0), 0);
        due("the others have nothing", fresh.back(1), -6);
    }

    private static void imagesKeepAll() {
        LevelSunday x = Checks.church(THREE + "pew 0 up 1 saws 9; hat 1; hat 2; wears 0 0; book 3; book 4; stands 0 0;"
                + "sits 0 0 0; sits 1 0 1; trench 1 1 8;");
        x.cut(0, 2);
        x.image(1);
        Checks.read(x, LARGE + "pew 0 down 9 saws 1; person tall 200 grows 5 heel 6; sits 0 3 3; hat 9; book 9; hat 9;"
                + "wears 0 1; stands 0 0; trench 1 1 3;");
        x.cut(0, 1);
        due("a fault", Checks.read(x, "hat"), -4);
        x.row(2, 0, 4);
        x.feed(0, 0, 0, 0, 0);
        due("back(1)", x.back(1), 0);
        int[] counts = {2, 3, 0, 0, 3, 3, 2, 2, 14, 20, 2, 1};
        for (int what = 0; what < counts.length; what++) {
            due("back count(" + what + ")", x.count(what), counts[what]);
        }
        int[] person = {170, 1, 0, 0, 0, 0, 1};
        for (int what = 0; what < person.length; what++) {
            due("back person(0, " + what + ")", x.person(0, what), person[what]);
        }
        due("up", x.pew(0, 0), 1);
        due("saws", x.pew(0, 1), 9);
        due("sawn", x.pew(0, 2), 2);
        due("floor", x.floor(1, 1), -8);
        due("hat", x.thing(0, 1), 2);
        due("book", x.thing(1, 1), 4);
        due("who", x.who(0, 1), 1);
        due("another place is free", x.who(1, 0), -1);
        due("the fault is of the latest church()", x.fault(0), 1);
        due("its place too", x.fault(1), 0);
    }

    private static void rows() {
        LevelSunday x = new LevelSunday();
        for (int slot = 0; slot < 4; slot++) {
            for (int width = 0; width < 4; width++) {
                due("row(" + slot + ", " + width + ", 0)", x.row(slot, width, 0), 0);
                due("row(" + slot + ", " + width + ", 60)", x.row(slot, width, 60), 0);
                due("row(" + slot + ", " + width + ", 61)", x.row(slot, width, 61), -2);
                due("row(" + slot + ", " + width + ", -1)", x.row(slot, width, -1), -3);
            }
            due("count(11)", x.count(11), slot + 1);
        }
        due("row(4, 0, 1)", x.row(4, 0, 1), -2);
        due("row(-1, 0, 1)", x.row(-1, 0, 1), -2);
        due("row(0, 4, 1)", x.row(0, 4, 1), -2);
        due("row(0, -1, 1)", x.row(0, -1, 1), -2);
        due("row(0, 0, MAX)", x.row(0, 0, Integer.MAX_VALUE), -2);
        due("row(0, 0, MIN)", x.row(0, 0, Integer.MIN_VALUE), -3);
        due("row(4, 0, -1)", x.row(4, 0, -1), -2);
        due("row(-1, 0, -1)", x.row(-1, 0, -1), -2);
        due("row(0, 4, -1)", x.row(0, 4, -1), -2);
        due("row(0, -1, -1)", x.row(0, -1, -1), -2);
        due("each stays as long as it was", x.write(0, 59, 1), 0);
        due("-3 leaves a slot with nothing so", new LevelSunday().row(0, 0, -1), -3);
        LevelSunday y = new LevelSunday();
        y.row(0, 0, -1);
        y.row(1, 0, 61);
        due("count(11)", y.count(11), 0);
        due("it has nothing", y.write(0, 0, 1), -6);
        due("it has nothing", y.write(1, 0, 1), -6);
        LevelSunday z = Checks.church("church pews 1 places 1 level 0 by row; person tall 100 grows 0 heel 0;");
        fill(z, 0, 1, 0, 0, 100);
        due("row stays", z.row(0, 1, -1), -3);
        due("row stays", z.row(0, 1, 61), -2);
        due("row stays", z.row(0, 4, 3), -2);
        due("row stays", z.seen(0, 0), 1);
        due("in place of another", z.row(0, 1, 3), 0);
        due("all 0", z.seen(0, 0), 0);
        due("another width", z.row(0, 3, 3), 0);
        z.row(1, 1, 3);
        due("is not of one width", z.paste(0, 0, 1, 0, 3), -8);
    }

    private static void writes() {
        LevelSunday x = new LevelSunday();
        due("nothing", x.write(0, 0, 1), -6);
        due("nothing, no such number", x.write(3, -1, 1), -6);
        due("no such slot", x.write(4, 0, 1), -2);
        due("no such slot", x.write(-1, -1, 1), -2);
        x.row(0, 3, 1);
        due("the first and last", x.write(0, 0, Long.MIN_VALUE), 0);
        due("beyond", x.write(0, 1, 1), -7);
        due("below", x.write(0, -1, 1), -7);
        due("far beyond", x.write(0, Integer.MAX_VALUE, 1), -7);
        due("far below", x.write(0, Integer.MIN_VALUE, 1), -7);
        x.row(0, 0, 0);
        due("of no numbers", x.write(0, 0, 1), -7);
        x.row(0, 0, 60);
        due("the last of sixty", x.write(0, 59, 1), 0);
        due("behind sixty", x.write(0, 60, 1), -7);
    }

    /** A height of -9 tells a sign, one of 171 what is cut off; a pew that is cut to 0 is one. */
    private static void widths() {
        LevelSunday low = Checks.church("church pews 1 places 1 level 0 by row; pew 0 down 40 saws 9; trench 0 0 60;"
                + "person tall 100 grows 0 heel 0;");
        low.cut(0, 9);
        for (int width = 0; width < 4; width++) {
            long all = width == 3 ? 0 : 1L << (8 << width);
            due("-9, width " + width, seenAt(low, width, 0, 0, -9), 1);
            due("-9 as it is cut, width " + width, seenAt(low, width, 0, 0, all - 9), 1);
            due("the bit above is cut, width " + width, seenAt(low, width, 0, 0, -9 - all), 1);
            due("a pew cut to 0, width " + width, seenAt(low, width, all, 0, -9), 1);
            due("a place cut to 0, width " + width, seenAt(low, width, 0, -all, -9), 1);
            if (width < 3) {
                due("the highest bit, width " + width, seenAt(low, width, 0, 0, (all >> 1) - 9), 0);
            }
        }
        LevelSunday x = Checks.church("church pews 1 places 2 level 0 by row; trench 0 0 60; trench 0 1 60;"
                + "person tall 187 grows 0 heel 0; person tall 188 grows 0 heel 0;");
        due("127 in a byte", seenAt(x, 0, 0, 0, 127), 1);
        due("128 in a byte", seenAt(x, 0, 0, 0, 128), 0);
        due("128 in two bytes", seenAt(x, 1, 0, 0, 128), 1);
        due("127 + 256 in a byte", seenAt(x, 0, 0, 0, 383), 1);
        due("127 + 256 in two", seenAt(x, 1, 0, 0, 383), 0);
        due("128 + 65536 in two", seenAt(x, 1, 0, 0, 65_664), 1);
        due("128 + 65536 in four", seenAt(x, 2, 0, 0, 65_664), 0);
        due("128 + 2^32 in four", seenAt(x, 2, 0, 0, 128 + (1L << 32)), 1);
        due("128 + 2^32 in eight", seenAt(x, 3, 0, 0, 128 + (1L << 32)), 0);
        due("128 - 2^63 in four", seenAt(x, 2, 0, 0, 128 + Long.MIN_VALUE), 1);
    }

    private static void pasteRefused() {
        LevelSunday x = new LevelSunday();
        due("no such slot", x.paste(4, 0, 0, 0, 0), -2);
        due("no such slot", x.paste(0, 0, 4, 0, 0), -2);
        due("no such slot", x.paste(-1, 0, 0, 0, 0), -2);
        due("no such slot", x.paste(0, 0, -1, 0, 0), -2);
        due("both have nothing", x.paste(0, 0, 1, 0, 0), -6);
        due("its own has nothing", x.paste(0, 0, 0, 0, 0), -6);
        x.row(0, 1, 3);
        due("the one has nothing", x.paste(1, 0, 0, 0, 0), -6);
        due("the other has nothing", x.paste(0, 0, 1, 0, 0), -6);
        due("nothing, ahead of places", x.paste(0, -1, 1, -1, -1), -6);
        due("no such slot, ahead of nothing", x.paste(1, 0, 4, 0, 0), -2);
        for (int width = 0; width < 4; width++) {
            x.row(1, width, 3);
            due("of one width", x.paste(0, 0, 1, 0, 3), width == 1 ? 0 : -8);
            due("of one width, n is 0", x.paste(0, 0, 1, 0, 0), width == 1 ? 0 : -8);
            due("of one width, ahead of places", x.paste(0, -1, 1, 9, -1), width == 1 ? -7 : -8);
        }
    }

    private static void pasteEnds() {
        LevelSunday x = new LevelSunday();
        x.row(0, 1, 4);
        x.row(1, 1, 6);
        due("all", x.paste(0, 0, 1, 0, 4), 0);
        due("to the end", x.paste(0, 0, 1, 2, 4), 0);
        due("beyond the end", x.paste(0, 0, 1, 3, 4), -7);
        due("more than there are", x.paste(0, 0, 1, 0, 5), -7);
        due("beyond the first's end", x.paste(0, 1, 1, 0, 4), -7);
        due("the last one", x.paste(0, 3, 1, 5, 1), 0);
        due("behind the last", x.paste(0, 4, 1, 5, 1), -7);
        due("to behind the last", x.paste(0, 3, 1, 6, 1), -7);
        due("nothing, at both ends", x.paste(0, 4, 1, 6, 0), 0);
        due("nothing, above one's end", x.paste(0, 5, 1, 0, 0), -7);
        due("nothing, above the other's end", x.paste(0, 0, 1, 7, 0), -7);
        due("i below 0", x.paste(0, -1, 1, 0, 1), -7);
        due("k below 0", x.paste(0, 0, 1, -1, 1), -7);
        due("n below 0", x.paste(0, 0, 1, 0, -1), -7);
        due("nothing, i below 0", x.paste(0, -1, 1, 0, 0), -7);
        due("nothing, k below 0", x.paste(0, 0, 1, -1, 0), -7);
        due("n below 0 from a later place", x.paste(0, 2, 1, 2, -1), -7);
        due("sums that wrap", x.paste(0, 1, 1, 0, Integer.MAX_VALUE), -7);
        due("sums that wrap", x.paste(0, Integer.MAX_VALUE, 1, 0, Integer.MAX_VALUE), -7);
        due("sums that wrap", x.paste(0, 0, 1, Integer.MAX_VALUE, 1), -7);
        due("far below", x.paste(0, Integer.MIN_VALUE, 1, Integer.MIN_VALUE, Integer.MIN_VALUE), -7);
        x.row(2, 1, 0);
        due("rows of none", x.paste(2, 0, 2, 0, 0), 0);
        due("rows of none, one", x.paste(2, 0, 2, 0, 1), -7);
        due("from a row of none", x.paste(2, 0, 1, 6, 0), 0);
        x.row(2, 0, 60);
        x.row(3, 0, 60);
        due("sixty", x.paste(2, 0, 3, 0, 60), 0);
        due("sixty-one", x.paste(2, 0, 3, 0, 61), -7);
    }

    /** Numbers go as they were, also where the rows are one. */
    private static void pasteOverItself() {
        LevelSunday x = Checks.church("church pews 1 places 4 level 0 by row; person tall 100 grows 0 heel 0;"
                + "person tall 101 grows 0 heel 0; person tall 102 grows 0 heel 0; person tall 103 grows 0 heel 0;");
        fill(x, 0, 1, 100, 0, 0, 101, 0, 1, 102, 0, 2, 103);
        // Three at a time from place 1 on; then moved forward by three, as they were.
        fill(x, 1, 1, 0, 0, 0, 0, 0, 0, 0, 0, 0);
        due("paste", x.paste(0, 1, 1, 0, 9), 0);
        due("what is told is kept", x.sure(1, 0, 0), 1);
        due("what is told is kept", x.sure(1, 0, 2), 3);
        due("forward", x.paste(1, 0, 1, 3, 6), 0);
        due("twice at one place", x.seen(1, 0), -2);
        x.write(1, 1, 3);
        due("one person twice", x.seen(1, 0), 0);
        x.write(1, 2, 100);
        due("the first is as written", x.sure(1, 0, 0), 0);
        due("the second was the first", x.sure(1, 0, 1), 1);
        due("the third was the second", x.sure(1, 0, 2), 2);
        due("backward", x.paste(1, 3, 1, 0, 6), 0);
        x.write(1, 7, 3);
        x.write(1, 8, 103);
        due("the first was the second", x.sure(1, 0, 0), 1);
        due("the second was the third", x.sure(1, 0, 1), 2);
        due("the third is as written", x.sure(1, 0, 2), 3);
        due("on itself", x.paste(1, 0, 1, 0, 9), 0);
        due("as it was", x.sure(1, 0, 1), 2);
        due("a refused one", x.paste(1, 3, 1, 4, 6), -7);
        due("as it was", x.sure(1, 0, 2), 3);
    }
}
