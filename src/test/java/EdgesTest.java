/** Promise by promise, 6 to 49: the last that is taken and the first that is not, nothing there, all there is room for. */
public final class EdgesTest {
    private static final int[] NO_YEARS = {-1, 31, Integer.MIN_VALUE, Integer.MAX_VALUE};
    /** All there is room for; person 0 is as low as one can be, person 7 as high, who grows most. */
    private static final String FULL = "church pews 4 places 5 level 30 by all; pew 0 up 40 saws 9; pew 3 down 40 saws 9;"
            + "trench 3 4 60; person tall 100 grows 0 heel 0;" + "person tall 150 grows 1 heel 1;".repeat(6)
            + "person tall 220 grows 9 heel 9; sits 0 3 4; sits 7 0 0;" + "hat 0;".repeat(7) + "hat 30;wears 7 7;"
            + "book 30;".repeat(5) + "stands 7 0; stands 7 1; stands 7 2; stands 7 3; stands 7 4;";
    private static final String BARE = "church pews 2 places 2 level 0 by all;";

    private static final Checks CHECKS = new Checks("EdgesTest");

    public static void main(String[] args) {
        years();
        pew();
        floor();
        who();
        person();
        thing();
        high();
        spread();
        level();
        first();
        out();
        above();
        saws();
        ways();
        ever();
        everOfBoth();
        lasts();
        clash();
        cut();
        books();
        gifts();
        hats();
        handed();
        rings();
        bare();
        kinds();
        wide();
        away();
        stilts();
        humpAtEnds();
        humpAbove();
        seat();
        sits();
        change();
        pair();
        wears();
        stands();
        trench();
        digs();
        law();
        least();
        lowestOfAll();
        CHECKS.finish();
    }

    private static void due(String call, long got, long want) {
        CHECKS.due(call, got, want);
    }

    /** One pew of so many places, one in each so tall, who don't grow. */
    private static String row(String law, int... tall) {
        StringBuilder s = new StringBuilder("church pews 1 places " + tall.length + " " + law + ";");
        for (int p = 0; p < tall.length; p++) {
            s.append("person tall " + tall[p] + " grows 0 heel 0; sits " + p + " 0 " + p + ";");
        }
        return s.toString();
    }

    /** Pews of one place each, one in each so tall, each with so many saws. */
    private static String pews(String law, int saws, int... tall) {
        StringBuilder s = new StringBuilder("church pews " + tall.length + " places 1 " + law + ";");
        for (int p = 0; p < tall.length; p++) {
            s.append("pew " + p + " up 0 saws " + saws + "; person tall " + tall[p] + " grows 0 heel 0;");
            s.append("sits " + p + " " + p + " 0;");
        }
        return s.toString();
    }

    /** Years 0 and 30 are years for every call, -1 and 31 for none; person 0 sits alone. */
    private static void years() {
        LevelSunday x = Checks.church("church pews 1 places 3 level 0 by row; person tall 150 grows 2 heel 0;"
                + "sits 0 0 1; hat 3; book 1;");
        x.row(0, 1, 0);
        int[] first = answers(x, 0);
        int[] last = answers(x, 30);
        int[] wantFirst = {150, 0, 1, -1, 0, 0, 0, 0, 0, 1, 0, 0, -1, -1, 0, -1, 2, 1, 0, 0, 1, 0, 0, 0, 0, 100, 0, -1, 0,
            -1, 0, 0, 0, 1, -1, -1, 150, 20};
        for (int i = 0; i < first.length; i++) {
            boolean isHigh = i == 0;
            boolean isGrown = i == 36;
            due("year 0, call " + i, first[i], wantFirst[i]);
            due("year 30, call " + i, isGrown ? 150 : last[i], isHigh ? 210 : wantFirst[i]);
        }
        due("grown in year 30", last[36] >= 150 && last[36] <= 150 + 270 ? 1 : 0, 1);
        for (int year : NO_YEARS) {
            int[] none = answers(x, year);
            for (int i = 0; i < none.length; i++) {
                due("year " + year + ", call " + i, none[i], i == 0 || i == 36 ? -1000 : -2);
            }
        }
        due("wants are as many", wantFirst.length, first.length);
    }

    private static int[] answers(LevelSunday x, int year) {
        return new int[] {x.high(0, year), x.spread(0, year), x.level(year), x.first(year), x.out(year, 0),
            x.out(year, 1), x.above(0, year), x.saws(year), x.saw(year, 0), x.ways(year), x.ever(year),
            x.sawn(year, 0), x.clash(year), x.shuts(year), x.books(year), x.given(year, 0), x.gifts(year), x.hats(year),
            x.handed(year, 0), x.rings(year, 0), x.kinds(year), x.wide(year, 1), x.away(year), x.stay(year),
            x.stilts(0, year), x.lengths(0, year), x.hump(0, year, 0), x.hump(0, year, 1), x.seat(0, year),
            x.pair(year), x.digs(0, year), x.least(year, 0), x.least(year, 1), x.seen(0, year), x.sure(0, year, 0),
            x.odd(0, year), x.grown(5, 0, year), x.years(5, 20, year)};
    }

    private static void pew() {
        LevelSunday x = Checks.church(FULL);
        due("pew(0, 0)", x.pew(0, 0), 40);
        due("pew(3, 0)", x.pew(3, 0), -40);
        due("pew(3, 1)", x.pew(3, 1), 9);
        due("pew(1, 1)", x.pew(1, 1), 0);
        due("pew(3, 2)", x.pew(3, 2), 0);
        due("cut(3, 9)", x.cut(3, 9), 9);
        due("pew(3, 2)", x.pew(3, 2), 9);
        due("pew(3, 0) stays", x.pew(3, 0), -40);
        due("pew(3, 1) stays", x.pew(3, 1), 9);
        due("pew(0, 2) stays", x.pew(0, 2), 0);
        due("pew(1, 3), nobody", x.pew(1, 3), 0);
        for (int place = 0; place < 5; place++) {
            due("sits", x.sits(1 + place, 1, place), -1);
            due("pew(1, 3)", x.pew(1, 3), 1 + place);
        }
        for (int what = -1; what <= 4; what++) {
            due("pew(4, " + what + ")", x.pew(4, what), -100);
            due("pew(-1, " + what + ")", x.pew(-1, what), -100);
        }
        due("pew(0, 4)", x.pew(0, 4), -100);
        due("pew(0, -1)", x.pew(0, -1), -100);
        due("pew(MIN, 0)", x.pew(Integer.MIN_VALUE, 0), -100);
        due("pew(0, MAX)", x.pew(0, Integer.MAX_VALUE), -100);
        LevelSunday one = Checks.church(row("level 0 by row", 100));
        due("of one pew, pew(0, 3)", one.pew(0, 3), 1);
        due("of one pew, pew(1, 0)", one.pew(1, 0), -100);
    }

    private static void floor() {
        LevelSunday x = Checks.church(FULL);
        due("floor(0, 0)", x.floor(0, 0), 40);
        due("floor(1, 4)", x.floor(1, 4), 0);
        due("floor(3, 3)", x.floor(3, 3), -40);
        due("floor(3, 4)", x.floor(3, 4), -100);
        x.cut(3, 9);
        due("floor(3, 4), sawn", x.floor(3, 4), -109);
        due("floor(3, 0), sawn", x.floor(3, 0), -49);
        due("floor(3, 5)", x.floor(3, 5), -1000);
        due("floor(4, 0)", x.floor(4, 0), -1000);
        due("floor(-1, 0)", x.floor(-1, 0), -1000);
        due("floor(0, -1)", x.floor(0, -1), -1000);
        due("floor(MIN, MAX)", x.floor(Integer.MIN_VALUE, Integer.MAX_VALUE), -1000);
        due("floor of none", new LevelSunday().floor(0, 0), -1000);
    }

    private static void who() {
        LevelSunday x = Checks.church(FULL);
        due("who(0, 0)", x.who(0, 0), 7);
        due("who(3, 4)", x.who(3, 4), 0);
        due("who(0, 4)", x.who(0, 4), -1);
        due("who(3, 0)", x.who(3, 0), -1);
        due("who(3, 5)", x.who(3, 5), -2);
        due("who(4, 0)", x.who(4, 0), -2);
        due("who(-1, 0)", x.who(-1, 0), -2);
        due("who(0, -1)", x.who(0, -1), -2);
        due("who(-1, -1)", x.who(-1, -1), -2);
        due("who of none", new LevelSunday().who(0, 0), -2);
    }

    private static void person() {
        LevelSunday x = Checks.church(FULL);
        int[] low = {100, 0, 0, 3, 4, -1, 0};
        int[] middle = {150, 1, 1, -1, -1, -1, 0};
        int[] top = {220, 9, 9, 0, 0, 7, 31};
        for (int what = 0; what < 7; what++) {
            due("person(0, " + what + ")", x.person(0, what), low[what]);
            due("person(3, " + what + ")", x.person(3, what), middle[what]);
            due("person(7, " + what + ")", x.person(7, what), top[what]);
        }
        for (int what = -1; what <= 7; what++) {
            due("person(8, " + what + ")", x.person(8, what), -2);
            due("person(-1, " + what + ")", x.person(-1, what), -2);
        }
        due("person(7, 7)", x.person(7, 7), -2);
        due("person(7, -1)", x.person(7, -1), -2);
        due("of nobody", Checks.church(BARE).person(0, 0), -2);
    }

    private static void thing() {
        LevelSunday x = Checks.church(FULL);
        due("a hat of no height", x.thing(0, 0), 0);
        due("thing(0, 7)", x.thing(0, 7), 30);
        due("thing(0, 8)", x.thing(0, 8), -2);
        due("thing(0, -1)", x.thing(0, -1), -2);
        due("thing(1, 0)", x.thing(1, 0), 30);
        due("thing(1, 4)", x.thing(1, 4), 30);
        due("thing(1, 5)", x.thing(1, 5), -2);
        due("thing(1, -1)", x.thing(1, -1), -2);
        due("thing(2, 0)", x.thing(2, 0), -2);
        due("thing(-1, 0)", x.thing(-1, 0), -2);
        LevelSunday none = Checks.church(BARE);
        due("no hats", none.thing(0, 0), -2);
        due("no books", none.thing(1, 0), -2);
    }

    private static void high() {
        LevelSunday x = Checks.church(FULL);
        due("high(0, 0)", x.high(0, 0), 0);
        due("high(0, 30)", x.high(0, 30), 0);
        // 220 and 9, a hat of 30, books of 150, a floor of 40.
        due("high(7, 0)", x.high(7, 0), 449);
        due("high(7, 30)", x.high(7, 30), 719);
        due("high(1, 30), who sits nowhere", x.high(1, 30), 181);
        x.cut(3, 9);
        due("below the ground", x.high(0, 0), -9);
        due("high(8, 0)", x.high(8, 0), -1000);
        due("high(-1, 0)", x.high(-1, 0), -1000);
        due("high(0, -1)", x.high(0, -1), -1000);
        due("high(0, 31)", x.high(0, 31), -1000);
        due("high(8, 31)", x.high(8, 31), -1000);
        x.sits(7, -1, 0);
        due("without a floor", x.high(7, 0), 409);
    }

    private static void spread() {
        LevelSunday x = Checks.church(FULL);
        x.cut(3, 9);
        due("of all", x.spread(-1, 30), 728);
        due("of one", x.spread(0, 30), 0);
        due("of the last", x.spread(3, 0), 0);
        due("of nobody", x.spread(1, 0), 0);
        due("spread(4, 0)", x.spread(4, 0), -2);
        due("spread(-2, 0)", x.spread(-2, 0), -2);
        due("spread(MIN, 0)", x.spread(Integer.MIN_VALUE, 0), -2);
        due("spread(-1, 31)", x.spread(-1, 31), -2);
        x.sits(1, 0, 1);
        // 151 and 40 against 449, who grows by 9.
        due("of two", x.spread(0, 0), 258);
        due("of two later", x.spread(0, 30), 498);
        x.sits(7, -1, 0);
        x.sits(0, -1, 0);
        due("of one of all", x.spread(-1, 0), 0);
        x.sits(1, -1, 0);
        due("of nobody of all", x.spread(-1, 0), 0);
        due("without a church", new LevelSunday().spread(-1, 0), -2);
        due("by row of all", Checks.church(pews("level 0 by row", 0, 100, 220)).spread(-1, 0), 120);
    }

    private static void level() {
        due("apart by level", Checks.church(row("level 30 by all", 130, 100)).level(0), 1);
        due("apart by more", Checks.church(row("level 30 by all", 131, 100)).level(0), 0);
        due("level 0, alike", Checks.church(row("level 0 by row", 131, 131)).level(0), 1);
        due("level 0, not alike", Checks.church(row("level 0 by row", 131, 132)).level(0), 0);
        due("by row, apart by more", Checks.church(row("level 30 by row", 131, 100)).level(0), 0);
        due("by row, two pews", Checks.church(pews("level 0 by row", 0, 100, 220)).level(0), 1);
        due("by all, two pews", Checks.church(pews("level 0 by all", 0, 100, 220)).level(0), 0);
        due("nobody sits", Checks.church(BARE + "person tall 100 grows 0 heel 0; person tall 220 grows 0 heel 0;")
                .level(0), 1);
        LevelSunday x = Checks.church(row("level 5 by all", 100, 220, 105));
        x.sits(1, -1, 0);
        due("who doesn't sit doesn't count", x.level(0), 1);
        LevelSunday y = Checks.church("church pews 2 places 2 level 0 by row; person tall 100 grows 0 heel 0;"
                + "person tall 150 grows 0 heel 0; sits 0 0 0; sits 1 0 1;");
        due("one row", y.level(0), 0);
        y.sits(1, 1, 1);
        due("one of them went to another row", y.level(0), 1);
    }

    private static void first() {
        LevelSunday x = Checks.church("church pews 1 places 2 level 29 by row; person tall 100 grows 1 heel 0;"
                + "person tall 100 grows 0 heel 0; sits 0 0 0; sits 1 0 1;");
        due("in the last year", x.first(0), 30);
        due("in the last year alone", x.first(30), 30);
        x.law(30);
        due("it is up to 30", x.first(0), -1);
        due("it is in 30", x.first(30), -1);
        x.law(0);
        due("in the next", x.first(0), 1);
        due("in the one itself", x.first(1), 1);
        due("not the first of all", x.first(7), 7);
    }

    private static void out() {
        LevelSunday x = Checks.church(row("level 0 by row", 150, 170, 150, 170, 160));
        due("the tallest, the least of two", x.out(0, 0), 1);
        due("the lowest, the least of two", x.out(0, 1), 0);
        x.sits(0, -1, 0);
        x.sits(1, -1, 0);
        due("the other tallest", x.out(0, 0), 3);
        due("the other lowest", x.out(0, 1), 2);
        due("out(0, 2)", x.out(0, 2), -2);
        due("out(0, -1)", x.out(0, -1), -2);
        for (int p = 2; p < 5; p++) {
            x.sits(p, -1, 0);
        }
        due("nobody sits", x.out(0, 0), -1);
        due("nobody sits", x.out(0, 1), -1);
        due("nobody sits, no such what", x.out(0, 2), -2);
        due("nobody sits, no such year", x.out(31, 1), -2);
        LevelSunday inch = Checks.church(row("level 0 by row", 150, 151, 149));
        due("taller by an inch", inch.out(0, 0), 1);
        due("lower by an inch", inch.out(0, 1), 2);
        due("one alone, tallest", Checks.church(row("level 0 by row", 150)).out(0, 0), 0);
        due("one alone, lowest", Checks.church(row("level 0 by row", 150)).out(0, 1), 0);
    }

    private static void above() {
        LevelSunday x = Checks.church(row("level 0 by row", 150, 150, 151, 149, 220));
        int[] lower = {1, 1, 3, 0, 4};
        for (int p = 0; p < 5; p++) {
            due("above(" + p + ", 0)", x.above(p, 0), lower[p]);
        }
        x.sits(3, -1, 0);
        due("lower, but sits nowhere", x.above(0, 0), 0);
        due("he sits nowhere", x.above(3, 0), -2);
        due("above(5, 0)", x.above(5, 0), -2);
        due("above(-1, 0)", x.above(-1, 0), -2);
        due("above(0, 31)", x.above(0, 31), -2);
        due("above(0, -1)", x.above(0, -1), -2);
    }

    private static void saws() {
        LevelSunday x = Checks.church(pews("level 0 by all", 9, 109, 100));
        due("as much as there is", x.saws(0), 9);
        due("of the one", x.saw(0, 0), 9);
        due("of the other", x.saw(0, 1), 0);
        due("saw(0, 2)", x.saw(0, 2), -2);
        due("saw(0, -1)", x.saw(0, -1), -2);
        due("saw(31, 0)", x.saw(31, 0), -2);
        x.cut(1, 1);
        due("more than there is", x.saws(0), -1);
        due("none does", x.saw(0, 0), -1);
        due("none does, no such pew", x.saw(0, 2), -2);
        x.cut(0, 4);
        x.cut(1, 8);
        due("what is sawn aside", x.saws(0), -1);
        x.law(9);
        due("what is sawn aside", x.saws(0), 5);
        due("what is sawn aside", x.saw(0, 0), 5);
        due("without saws, level", Checks.church(pews("level 1 by all", 0, 101, 100)).saws(0), 0);
        due("without saws, not level", Checks.church(pews("level 0 by all", 0, 101, 100)).saws(0), -1);
        LevelSunday most = Checks.church(pews("level 0 by all", 9, 109, 109, 109, 100));
        due("three pews", most.saws(0), 27);
        due("the third", most.saw(0, 2), 9);
        due("the fourth", most.saw(0, 3), 0);
        due("one row can't be mended", Checks.church(row("level 0 by all", 100, 101) + "pew 0 up 0 saws 9;").saws(0),
                -1);
        due("nobody sits", Checks.church(BARE + "pew 0 up 0 saws 9;").saws(0), 0);
        due("by row", Checks.church(pews("level 0 by row", 9, 109, 100)).saws(0), 0);
    }

    private static void ways() {
        due("all rows there are", Checks.church("church pews 4 places 1 level 0 by all; pew 0 up 0 saws 9;"
                + "pew 1 up 0 saws 9; pew 2 up 0 saws 9; pew 3 up 0 saws 9;").ways(0), 10000);
        due("one, without saws", Checks.church(BARE).ways(0), 1);
        due("none, without saws", Checks.church(pews("level 0 by all", 0, 101, 100)).ways(0), 0);
        due("level 0: both alike", Checks.church(pews("level 0 by all", 9, 100, 100)).ways(0), 10);
        due("level 0: the last inch", Checks.church(pews("level 0 by all", 9, 109, 100)).ways(0), 1);
        due("one inch more", Checks.church(pews("level 0 by all", 9, 110, 100)).ways(0), 0);
        due("level 9: all", Checks.church(pews("level 9 by all", 9, 100, 100)).ways(0), 100);
        due("level 8: all but two", Checks.church(pews("level 8 by all", 9, 100, 100)).ways(0), 98);
        LevelSunday x = Checks.church(pews("level 0 by all", 9, 100, 100));
        x.cut(0, 9);
        due("what is sawn aside", x.ways(0), 1);
        x.cut(1, 9);
        due("all is sawn", x.ways(0), 1);
        due("by row", Checks.church(pews("level 0 by row", 9, 100, 200)).ways(0), 100);
    }

    private static void ever() {
        String grows = "church pews 2 places 1 level 0 by all; pew 0 up 0 saws 9; pew 1 up 0 saws 9;"
                + "person tall 100 grows 1 heel 0; person tall 100 grows 0 heel 0; sits 0 0 0; sits 1 1 0;";
        LevelSunday x = Checks.church(grows);
        due("ever(0)", x.ever(0), 0);
        due("ever(9)", x.ever(9), 9);
        due("ever(10)", x.ever(10), -1);
        due("sawn(9, 0)", x.sawn(9, 0), 9);
        due("sawn(9, 1)", x.sawn(9, 1), 0);
        due("sawn(10, 1)", x.sawn(10, 1), -1);
        due("sawn(10, 2)", x.sawn(10, 2), -2);
        due("sawn(9, 2)", x.sawn(9, 2), -2);
        due("sawn(9, -1)", x.sawn(9, -1), -2);
        due("sawn(31, 0)", x.sawn(31, 0), -2);
        due("ever(31)", x.ever(31), -2);
        due("ever(-1)", x.ever(-1), -2);
        due("lasts()", x.lasts(), 9);
        x.law(21);
        due("ever(30)", x.ever(30), 9);
        due("sawn(30, 0)", x.sawn(30, 0), 9);
        due("lasts() to the end", x.lasts(), 30);
        x.law(20);
        due("ever(30), one inch less", x.ever(30), -1);
        due("lasts() to the year ahead", x.lasts(), 29);
        // What is sawn stays: in year 2 alone nothing need be sawn.
        LevelSunday y = Checks.church("church pews 2 places 1 level 0 by all; pew 0 up 4 saws 9; pew 1 up 0 saws 9;"
                + "person tall 100 grows 0 heel 0; person tall 100 grows 2 heel 0; sits 0 0 0; sits 1 1 0;");
        due("saws(2)", y.saws(2), 0);
        due("ever(2)", y.ever(2), 8);
        due("sawn(2, 0)", y.sawn(2, 0), 4);
        due("sawn(2, 1)", y.sawn(2, 1), 4);
    }

    /** He who was sawn down stays so: as the other grows, the lowest is he. */
    private static void everOfBoth() {
        LevelSunday x = Checks.church("church pews 2 places 1 level 9 by all; pew 0 up 0 saws 9; pew 1 up 0 saws 9;"
                + "person tall 100 grows 9 heel 0; person tall 118 grows 0 heel 0; sits 0 0 0; sits 1 1 0;");
        due("at first the other", x.ever(0), 9);
        due("till year 2", x.ever(2), 9);
        due("then both", x.ever(3), 18);
        due("of him who grows", x.sawn(3, 0), 9);
        due("of the other", x.sawn(3, 1), 9);
        due("no more", x.ever(4), -1);
        due("it lasts", x.lasts(), 3);
    }

    private static void lasts() {
        LevelSunday x = Checks.church("church pews 1 places 2 level 0 by row; person tall 100 grows 1 heel 0;"
                + "person tall 100 grows 0 heel 0; sits 0 0 0; sits 1 0 1;");
        due("year 0 alone", x.lasts(), 0);
        x.law(30);
        due("all years", x.lasts(), 30);
        x.law(29);
        due("all but one", x.lasts(), 29);
        LevelSunday y = Checks.church(row("level 0 by row", 100, 101));
        due("not even year 0", y.lasts(), -1);
        due("nobody sits", Checks.church(BARE).lasts(), 30);
        due("without a church", new LevelSunday().lasts(), -2);
    }

    private static void clash() {
        LevelSunday x = Checks.church(pews("level 0 by all", 9, 109, 100, 110, 119));
        // 100 can't be level with 110 and 119; 109 not with 119, which can be 110 at least.
        due("clash(0)", x.clash(0), 2);
        due("shuts(0), the least", x.shuts(0), 6);
        x.sits(1, -1, 0);
        due("without one", x.clash(0), 2);
        due("without one", x.shuts(0), 9);
        x.sits(3, -1, 0);
        due("all can be", x.clash(0), -1);
        due("all can be", x.shuts(0), -1);
        x.sits(0, -1, 0);
        due("one alone", x.clash(0), -1);
        x.sits(2, -1, 0);
        due("nobody", x.clash(0), -1);
        due("nobody", x.shuts(0), -1);
        LevelSunday y = Checks.church("church pews 2 places 5 level 0 by row;"
                + "person tall 100 grows 0 heel 0;".repeat(3) + "person tall 101 grows 0 heel 0;".repeat(5)
                + "sits 0 0 0; sits 1 0 1; sits 2 1 0; sits 6 0 2; sits 7 1 1;");
        due("by row", y.clash(0), 2);
        due("by row, the least", y.shuts(0), 65);
        y.sits(6, -1, 0);
        due("by row, the last of eight", y.shuts(0), 132);
        LevelSunday all = Checks.church("church pews 2 places 5 level 0 by all;"
                + "person tall 100 grows 0 heel 0;".repeat(7) + "person tall 101 grows 0 heel 0; sits 0 0 0; sits 1 0 1;"
                + "sits 2 0 2; sits 3 0 3; sits 4 0 4; sits 5 1 0; sits 6 1 1; sits 7 1 2;");
        due("eight who sit", all.shuts(0), 129);
    }

    private static void cut() {
        LevelSunday x = Checks.church(pews("level 0 by all", 9, 100, 100));
        due("nothing", x.cut(0, 0), 0);
        due("cut(0, 10)", x.cut(0, 10), -2);
        due("cut(0, -1)", x.cut(0, -1), -2);
        due("cut(0, MIN)", x.cut(0, Integer.MIN_VALUE), -2);
        due("cut(0, MAX)", x.cut(0, Integer.MAX_VALUE), -2);
        due("cut(-1, 0)", x.cut(-1, 0), -2);
        due("cut(2, 0)", x.cut(2, 0), -2);
        due("nothing is sawn", x.count(10), 0);
        due("cut(1, 9)", x.cut(1, 9), 9);
        due("cut(1, 1)", x.cut(1, 1), -2);
        due("cut(1, 0)", x.cut(1, 0), 9);
        due("cut(0, 5)", x.cut(0, 5), 5);
        due("cut(0, 5) again", x.cut(0, 5), -2);
        due("cut(0, MAX) again", x.cut(0, Integer.MAX_VALUE), -2);
        due("cut(0, 4)", x.cut(0, 4), 9);
        due("together", x.count(10), 18);
        due("without saws", Checks.church(BARE).cut(0, 1), -2);
        due("without saws, nothing", Checks.church(BARE).cut(1, 0), 0);
    }

    private static void books() {
        LevelSunday none = Checks.church(row("level 0 by all", 100, 100));
        due("no books, level", none.books(0), 0);
        due("no books, no such", none.given(0, 0), -2);
        due("no books, not level", Checks.church(row("level 0 by all", 100, 101)).books(0), -1);
        LevelSunday x = Checks.church(row("level 0 by all", 100, 130) + "book 30; book 30; stands 0 0; stands 0 1;");
        due("the fewest", x.books(0), 1);
        due("nobody ahead of people", x.given(0, 0), -1);
        due("the last has it", x.given(0, 1), 0);
        due("given(0, 2)", x.given(0, 2), -2);
        due("given(0, -1)", x.given(0, -1), -2);
        due("in place of what is told", x.level(0), 0);
        due("what is told stays", x.person(0, 6), 3);
        LevelSunday y = Checks.church(row("level 0 by all", 100, 131) + "book 30;");
        due("none do", y.books(0), -1);
        due("none do", y.given(0, 0), -1);
        due("none do, no such book", y.given(0, 1), -2);
        due("none of five do", Checks.church(row("level 0 by all", 100, 106) + "book 1;".repeat(5)).given(0, 4), -1);
        due("none do, no such year", y.given(31, 0), -2);
        LevelSunday away = Checks.church(row("level 0 by all", 100, 100) + "person tall 100 grows 0 heel 0; book 1;"
                + "stands 2 0;");
        due("nobody needs it", away.books(0), 0);
        due("who sits nowhere loses it", away.given(0, 0), -1);
        due("he can't be given it", away.gifts(0), 1);
        LevelSunday five = Checks.church(row("level 0 by all", 100, 105) + "book 1;".repeat(5));
        due("all five", five.books(0), 5);
        due("the first", five.given(0, 0), 0);
        due("the last", five.given(0, 4), 0);
        LevelSunday rows = Checks.church(pews("level 0 by row", 0, 100, 220) + "book 3;");
        due("by row", rows.books(0), 0);
        LevelSunday least = Checks.church(row("level 0 by all", 100, 100, 101) + "book 1; book 1;");
        due("the least row", least.given(0, 0), 0);
        due("the least row", least.given(0, 1), 1);
    }

    private static void gifts() {
        StringBuilder s = new StringBuilder("church pews 2 places 5 level 30 by all;");
        for (int p = 0; p < 8; p++) {
            s.append("person tall 100 grows 0 heel 0; sits " + p + " " + p / 5 + " " + p % 5 + ";");
        }
        due("five books, eight people", Checks.church(s + "book 1;".repeat(5)).gifts(0), 59049);
        due("no books", Checks.church(s.toString()).gifts(0), 1);
        due("no books, not level", Checks.church(row("level 0 by all", 100, 101)).gifts(0), 0);
        due("nobody sits", Checks.church(BARE + "book 1; book 2;").gifts(0), 1);
        due("one sits", Checks.church(row("level 0 by all", 100) + "book 1; book 2;").gifts(0), 4);
        due("none of them", Checks.church(row("level 0 by all", 100, 131) + "book 30;").gifts(0), 0);
        due("not the fewest alone", Checks.church(row("level 1 by all", 100, 100) + "book 1;").gifts(0), 3);
    }

    private static void hats() {
        StringBuilder s = new StringBuilder("church pews 2 places 5 level 30 by all;");
        for (int p = 0; p < 8; p++) {
            s.append("person tall 100 grows 0 heel 0; sits " + p + " " + p / 5 + " " + p % 5 + ";");
        }
        due("eight hats, eight people", Checks.church(s + "hat 1;".repeat(8)).hats(0), 40320);
        due("seven hats, eight people", Checks.church(s + "hat 1;".repeat(7)).hats(0), 0);
        due("no hats, nobody sits", Checks.church(BARE).hats(0), 1);
        due("hats, nobody sits", Checks.church(BARE + "hat 1; hat 2;").hats(0), 1);
        due("no hats, one sits", Checks.church(row("level 0 by all", 100)).hats(0), 0);
        due("one of eight", Checks.church(row("level 0 by all", 100) + "hat 1;".repeat(8)).hats(0), 8);
        due("apart by level", Checks.church(row("level 29 by all", 100, 100) + "hat 0; hat 29;").hats(0), 2);
        due("apart by more", Checks.church(row("level 29 by all", 100, 100) + "hat 0; hat 30;").hats(0), 0);
        due("by row", Checks.church(pews("level 0 by row", 0, 100, 200) + "hat 0; hat 30;").hats(0), 2);
        LevelSunday x = Checks.church(BARE + "person tall 100 grows 0 heel 0;".repeat(3) + "sits 1 0 0;"
                + "hat 1; hat 1; book 1;");
        due("one between two who sit nowhere", x.hats(0), 2);
        due("books likewise", x.gifts(0), 2);
    }

    private static void handed() {
        LevelSunday x = Checks.church(row("level 0 by all", 100, 100) + "person tall 100 grows 0 heel 0;"
                + "hat 3; hat 2; hat 2; hat 2; wears 2 1;");
        due("hats(0)", x.hats(0), 6);
        due("handed(0, 0)", x.handed(0, 0), 1);
        due("handed(0, 1)", x.handed(0, 1), 2);
        due("handed(0, 2), who sits nowhere", x.handed(0, 2), -2);
        due("handed(0, 3)", x.handed(0, 3), -2);
        due("handed(0, -1)", x.handed(0, -1), -2);
        due("what is told stays", x.person(2, 5), 1);
        LevelSunday y = Checks.church(row("level 0 by all", 100, 150) + "hat 3; hat 2;");
        due("there is none", y.handed(0, 0), -1);
        due("there is none", y.handed(0, 1), -1);
        due("there is none, no such one", y.handed(0, 2), -2);
        due("there is none, no such year", y.handed(31, 0), -2);
        LevelSunday z = Checks.church("church pews 1 places 2 level 0 by all; person tall 100 grows 2 heel 0;"
                + "person tall 101 grows 0 heel 0; sits 0 0 0; sits 1 0 1; hat 3; hat 2;");
        due("asked first of all", z.handed(0, 0), 0);
        due("the other way in year 1", z.handed(1, 0), 1);
        due("as ever in year 0", z.handed(0, 0), 0);
        due("none in year 2", z.handed(2, 0), -1);
    }

    private static void rings() {
        StringBuilder s = new StringBuilder("church pews 2 places 5 level 0 by all;");
        for (int p = 0; p < 8; p++) {
            s.append("person tall " + (100 + p) + " grows 0 heel 0; hat " + (7 - p) + "; sits " + p + " " + p / 5 + " "
                    + p % 5 + ";");
        }
        StringBuilder one = new StringBuilder(s);
        StringBuilder four = new StringBuilder(s);
        for (int p = 0; p < 8; p++) {
            one.append("wears " + p + " " + (p + 1) % 8 + ";");
            four.append("wears " + p + " " + (p ^ 1) + ";");
        }
        LevelSunday x = Checks.church(one.toString());
        due("one ring of all", x.rings(0, 0), 1);
        due("the longest", x.rings(0, 1), 8);
        due("rings(0, 2)", x.rings(0, 2), -2);
        due("rings(0, -1)", x.rings(0, -1), -2);
        x.sits(7, -1, 0);
        due("one who sits nowhere breaks it", x.rings(0, 0), 0);
        due("the longest of none", x.rings(0, 1), 0);
        LevelSunday y = Checks.church(four.toString());
        due("four rings", y.rings(0, 0), 4);
        due("the longest", y.rings(0, 1), 2);
        y.wears(6, -1);
        due("one who wears none breaks one", y.rings(0, 0), 3);
        LevelSunday bare = Checks.church(s.toString());
        due("none wears one", bare.rings(0, 0), 0);
        due("none wears one", bare.rings(0, 1), 0);
        bare.wears(0, 0);
        due("one that stays", bare.rings(0, 0), 0);
        LevelSunday absent = Checks.church(row("level 0 by all", 100) + "person tall 100 grows 0 heel 0; hat 0; wears 1 0;");
        due("from one who sits nowhere to one without", absent.rings(0, 0), 0);
        due("nobody sits", Checks.church(BARE).rings(0, 0), 0);
        LevelSunday none = Checks.church(row("level 0 by all", 100));
        due("there is no way", none.rings(0, 0), -1);
        due("there is no way", none.rings(0, 1), -1);
        due("there is no way, no such what", none.rings(0, 2), -2);
        due("there is no way, no such year", none.rings(31, 0), -2);
    }

    private static void bare() {
        due("nobody sits", Checks.church(FULL.replace("sits 0 3 4; sits 7 0 0;", "")).bare(), 0);
        due("one does, one doesn't", Checks.church(FULL).bare(), 1);
        StringBuilder s = new StringBuilder("church pews 4 places 2 level 0 by all; hat 0;");
        for (int p = 0; p < 8; p++) {
            s.append("person tall 100 grows 0 heel 0; sits " + p + " " + p / 2 + " " + p % 2 + ";");
        }
        LevelSunday x = Checks.church(s.toString());
        due("all eight", x.bare(), 255);
        x.wears(7, 0);
        due("a hat of no height is one", x.bare(), 127);
        due("without a church", new LevelSunday().bare(), -2);
    }

    private static void kinds() {
        StringBuilder s = new StringBuilder();
        for (int p = 0; p < 8; p++) {
            s.append("person tall 100 grows 0 heel 0; sits " + p + " " + p / 2 + " " + p % 2 + ";");
        }
        due("places: two each", Checks.church("church pews 4 places 2 level 0 by all;" + s).kinds(0), 4);
        due("places: three each", Checks.church("church pews 4 places 3 level 0 by all;" + s).kinds(0), 3);
        due("places: five each", Checks.church("church pews 4 places 5 level 0 by all;" + s).kinds(0), 2);
        due("one each", Checks.church(pews("level 30 by all", 0, 100, 100, 100, 100)).kinds(0), 4);
        due("nobody sits", Checks.church(BARE).kinds(0), 0);
        due("apart by level", Checks.church(row("level 5 by all", 100, 105)).kinds(0), 1);
        due("apart by more", Checks.church(row("level 5 by all", 100, 106)).kinds(0), 2);
        due("floors aside", Checks.church(row("level 5 by all", 100, 105) + "trench 0 0 60;").kinds(0), 1);
        due("hats count", Checks.church(row("level 5 by all", 100, 105) + "hat 1; wears 1 0;").kinds(0), 2);
        due("books count", Checks.church(row("level 5 by all", 100, 105) + "book 1; stands 1 0;").kinds(0), 2);
        due("by row alike", Checks.church(row("level 5 by row", 100, 106)).kinds(0), 2);
        due("in any order", Checks.church(row("level 0 by row", 150, 100, 150, 120, 100)).kinds(0), 3);
    }

    private static void wide() {
        LevelSunday x = Checks.church(row("level 0 by all", 100, 101, 220));
        due("three kinds", x.wide(0, 3), 0);
        due("two kinds", x.wide(0, 2), 1);
        due("one kind", x.wide(0, 1), 120);
        due("no kind", x.wide(0, 0), -1);
        due("wide(0, -1)", x.wide(0, -1), -2);
        due("wide(0, MIN)", x.wide(0, Integer.MIN_VALUE), -2);
        due("wide(0, MAX)", x.wide(0, Integer.MAX_VALUE), 0);
        due("wide(31, 1)", x.wide(31, 1), -2);
        LevelSunday y = Checks.church(pews("level 0 by all", 0, 100, 100, 100));
        due("places let three", y.wide(0, 3), 0);
        due("places don't let two", y.wide(0, 2), -1);
        due("nobody sits, no kind", Checks.church(BARE).wide(0, 0), 0);
    }

    private static void away() {
        StringBuilder s = new StringBuilder("church pews 4 places 2 level 9 by all;");
        for (int p = 0; p < 8; p++) {
            s.append("person tall " + (100 + 10 * p) + " grows 0 heel 0; sits " + p + " " + p / 2 + " " + p % 2 + ";");
        }
        LevelSunday x = Checks.church(s.toString());
        due("all but one", x.away(0), 7);
        due("the least set", x.stay(0), 127);
        x.law(10);
        due("all but two", x.away(0), 6);
        due("the least set", x.stay(0), 63);
        due("nobody sits", Checks.church(BARE).away(0), 0);
        due("nobody sits", Checks.church(BARE).stay(0), 0);
        LevelSunday y = Checks.church(pews("level 0 by all", 9, 101, 100));
        due("saws aside", y.away(0), 1);
        due("the least of two", y.stay(0), 1);
        due("by row", Checks.church(pews("level 0 by row", 9, 101, 100)).away(0), 0);
        LevelSunday z = Checks.church(row("level 0 by row", 100, 101, 101));
        due("the fewest", z.stay(0), 1);
    }

    private static void stilts() {
        LevelSunday x = Checks.church(row("level 0 by all", 100, 199));
        due("99", x.stilts(0, 0), 99);
        due("one number", x.lengths(0, 0), 1);
        due("of the taller", x.stilts(1, 0), -1);
        due("by none", x.lengths(1, 0), 0);
        LevelSunday y = Checks.church(row("level 0 by all", 100, 200));
        due("100", y.stilts(0, 0), -1);
        due("100", y.lengths(0, 0), 0);
        y.law(1);
        due("99 by level 1", y.stilts(0, 0), 99);
        due("one number", y.lengths(0, 0), 1);
        LevelSunday one = Checks.church(row("level 0 by all", 100));
        due("one alone", one.stilts(0, 0), 0);
        due("one alone: a hundred", one.lengths(0, 0), 100);
        LevelSunday z = Checks.church(row("level 30 by all", 100, 100, 220));
        due("others aren't level", z.stilts(0, 0), -1);
        z.sits(2, -1, 0);
        due("level as it is", z.stilts(0, 0), 0);
        due("0 .. 30", z.lengths(0, 0), 31);
        due("he sits nowhere", z.stilts(2, 0), -2);
        due("he sits nowhere", z.lengths(2, 0), -2);
        due("stilts(3, 0)", z.stilts(3, 0), -2);
        due("stilts(-1, 0)", z.stilts(-1, 0), -2);
        due("lengths(3, 0)", z.lengths(3, 0), -2);
        due("lengths(-1, 0)", z.lengths(-1, 0), -2);
        due("as high as before", z.high(0, 0), 100);
    }

    private static void humpAtEnds() {
        LevelSunday x = Checks.church(row("level 0 by row", 120, 100, 101, 100, 120));
        due("ends have one neighbour", x.hump(0, 0, 0), 1);
        due("the first place", x.hump(0, 0, 1), 2);
        due("hump(0, 0, 2)", x.hump(0, 0, 2), -2);
        due("hump(0, 0, -1)", x.hump(0, 0, -1), -2);
        due("hump(1, 0, 0)", x.hump(1, 0, 0), -2);
        due("hump(-1, 0, 0)", x.hump(-1, 0, 0), -2);
        LevelSunday two = Checks.church(row("level 0 by row", 100, 200));
        due("two places", two.hump(0, 0, 0), 0);
        due("two places", two.hump(0, 0, 1), -1);
        due("one place", Checks.church(row("level 0 by row", 100)).hump(0, 0, 0), 0);
        due("one place", Checks.church(row("level 0 by row", 100)).hump(0, 0, 1), -1);
        LevelSunday first = Checks.church(row("level 0 by row", 100, 101, 100, 101, 100));
        due("two humps", first.hump(0, 0, 0), 2);
        due("the first of two", first.hump(0, 0, 1), 1);
        first.sits(0, -1, 0);
        due("a neighbour is missing", first.hump(0, 0, 0), 1);
        due("the other", first.hump(0, 0, 1), 3);
        first.sits(3, -1, 0);
        due("nobody between", first.hump(0, 0, 0), 0);
        LevelSunday books = Checks.church(row("level 0 by row", 100, 100, 100) + "book 30;".repeat(5));
        books.sits(1, -1, 0);
        due("nobody between, books on which nobody stands", books.hump(0, 0, 0), 0);
        books.stands(1, 0);
        books.sits(1, 0, 1);
        due("one between on a book", books.hump(0, 0, 0), 1);
        due("without a church", new LevelSunday().hump(0, 0, 0), -2);
    }

    private static void humpAbove() {
        due("level above both", Checks.church(row("level 5 by row", 100, 105, 100)).hump(0, 0, 0), 0);
        due("more above both", Checks.church(row("level 5 by row", 100, 106, 100)).hump(0, 0, 0), 1);
        due("more above the left", Checks.church(row("level 5 by row", 100, 106, 101)).hump(0, 0, 0), 0);
        due("more above the right", Checks.church(row("level 5 by row", 101, 106, 100)).hump(0, 0, 0), 0);
        due("by all alike", Checks.church(row("level 5 by all", 100, 106, 100)).hump(0, 0, 0), 1);
        LevelSunday x = Checks.church("church pews 2 places 3 level 0 by row; person tall 100 grows 0 heel 0;"
                + "person tall 100 grows 1 heel 0; person tall 100 grows 0 heel 0; sits 0 1 0; sits 1 1 1; sits 2 1 2;");
        due("the last pew", x.hump(1, 0, 0), 0);
        due("in a later year", x.hump(1, 1, 0), 1);
        due("another pew", x.hump(0, 1, 0), 0);
        x.trench(1, 1, 1);
        due("floors count", x.hump(1, 1, 0), 0);
    }

    private static void seat() {
        LevelSunday x = Checks.church(BARE + "person tall 100 grows 0 heel 0; person tall 100 grows 0 heel 0;"
                + "sits 0 0 0;");
        due("the least free place", x.seat(1, 0), 1);
        due("one who sits, his own aside", x.seat(0, 0), 1);
        due("seat(2, 0)", x.seat(2, 0), -2);
        due("seat(-1, 0)", x.seat(-1, 0), -2);
        due("seat(0, 31)", x.seat(0, 31), -2);
        x.trench(0, 1, 1);
        due("the next pew", x.seat(1, 0), 100);
        x.trench(1, 0, 1);
        due("the last of all", x.seat(1, 0), 101);
        x.trench(1, 1, 1);
        due("none", x.seat(1, 0), -1);
        due("he sits nowhere still", x.person(1, 3), -1);
        due("alone everywhere", x.seat(0, 0), 1);
        LevelSunday y = Checks.church(FULL.replace("sits 0 3 4; sits 7 0 0;", ""));
        due("the first of all", y.seat(0, 0), 0);
        for (int p = 1; p < 8; p++) {
            y.sits(p, (p - 1) / 5, (p - 1) % 5);
        }
        y.law(0);
        due("others aren't level", y.seat(0, 0), -1);
        LevelSunday one = Checks.church(row("level 0 by all", 100) + "person tall 100 grows 0 heel 0;");
        due("no free place", one.seat(1, 0), -1);
        due("no free place for him who has it", one.seat(0, 0), -1);
        LevelSunday last = Checks.church("church pews 4 places 5 level 0 by all; pew 0 up 1 saws 0; pew 1 up 1 saws 0;"
                + "pew 2 up 1 saws 0; person tall 100 grows 0 heel 0; person tall 100 grows 0 heel 0; sits 0 3 0;"
                + "trench 3 1 1; trench 3 2 1; trench 3 3 1;");
        due("pew 3, place 4", last.seat(1, 0), 304);
        due("without a church", new LevelSunday().seat(0, 0), -2);
        LevelSunday rows = Checks.church("church pews 2 places 2 level 0 by row; person tall 100 grows 0 heel 0;"
                + "person tall 150 grows 0 heel 0; sits 0 0 0;");
        due("not beside one who is lower", rows.seat(1, 0), 100);
        rows.sits(1, 0, 1);
        due("his old row is level without him", rows.seat(1, 0), 100);
    }

    private static void sits() {
        LevelSunday x = Checks.church(FULL);
        due("where one sits", x.sits(7, 3, 4), -2);
        due("where he sits himself", x.sits(0, 3, 4), -2);
        due("sits(0, 4, 0)", x.sits(0, 4, 0), -2);
        due("sits(0, 3, 5)", x.sits(0, 3, 5), -2);
        due("sits(0, 3, -1)", x.sits(0, 3, -1), -2);
        due("sits(0, -2, 0)", x.sits(0, -2, 0), -2);
        due("sits(8, 0, 1)", x.sits(8, 0, 1), -2);
        due("sits(-1, 0, 1)", x.sits(-1, 0, 1), -2);
        due("sits(8, -1, 1)", x.sits(8, -1, 1), -2);
        due("nothing happened", x.who(3, 4), 0);
        due("nothing happened", x.who(0, 0), 7);
        due("sits(0, 3, 3)", x.sits(0, 3, 3), 304);
        due("the old place is free", x.sits(7, 3, 4), 0);
        due("from place 0 of pew 0", x.who(3, 4), 7);
        due("nowhere, no such place", x.sits(7, -1, 99), 304);
        due("he has no pew", x.person(7, 3), -1);
        due("he has no place", x.person(7, 4), -1);
        due("nowhere again", x.sits(7, -1, -5), -1);
        due("from nowhere", x.sits(7, 0, 4), -1);
        due("from place 4 of pew 0", x.sits(7, 1, 0), 4);
        due("from place 0 of pew 1", x.sits(7, 0, 0), 100);
    }

    private static void change() {
        LevelSunday x = Checks.church(FULL);
        due("change(0, 7)", x.change(0, 7), 0);
        due("who(0, 0)", x.who(0, 0), 0);
        due("who(3, 4)", x.who(3, 4), 7);
        due("change(7, 0)", x.change(7, 0), 0);
        due("who(0, 0)", x.who(0, 0), 7);
        due("one twice", x.change(0, 0), -2);
        due("one sits nowhere", x.change(0, 1), -2);
        due("one sits nowhere", x.change(1, 0), -2);
        due("both sit nowhere", x.change(1, 2), -2);
        due("change(0, 8)", x.change(0, 8), -2);
        due("change(8, 0)", x.change(8, 0), -2);
        due("change(-1, 0)", x.change(-1, 0), -2);
        due("change(0, -1)", x.change(0, -1), -2);
        due("change(-1, -1)", x.change(-1, -1), -2);
        due("who(3, 4)", x.who(3, 4), 0);
        due("his hat goes with him", x.person(7, 5), 7);
    }

    private static void pair() {
        due("nobody sits", Checks.church(BARE).pair(0), -1);
        due("one sits", Checks.church(row("level 0 by all", 100)).pair(0), -1);
        due("alike floors", Checks.church(row("level 0 by all", 100, 200, 150)).pair(0), -1);
        LevelSunday x = Checks.church("church pews 2 places 4 level 0 by row; pew 1 down 10 saws 0;"
                + "person tall 150 grows 0 heel 0;".repeat(6) + "person tall 140 grows 0 heel 0;"
                + "person tall 150 grows 0 heel 0; sits 6 1 0; sits 7 0 0;");
        // 150 and 130; changed 140 and 140.
        due("the last two", x.pair(0), 67);
        x.change(6, 7);
        due("none makes it less", x.pair(0), -1);
        x.sits(0, 0, 1);
        due("none still, as all who sit count", x.pair(0), -1);
        LevelSunday y = Checks.church("church pews 2 places 2 level 0 by row; pew 1 down 10 saws 0;"
                + "person tall 150 grows 0 heel 0; person tall 140 grows 0 heel 0; person tall 140 grows 0 heel 0;"
                + "sits 0 0 0; sits 1 1 0; sits 2 0 1;");
        // 150, 130, 140; 0 with 1: 140, 140, 140; 0 with 2: alike; 1 with 2: 150, 140, 130.
        due("of 0 with 1", y.pair(0), 1);
        due("who sits where stays", y.who(0, 0), 0);
        due("how high they are stays", y.spread(-1, 0), 20);
        LevelSunday z = Checks.church("church pews 3 places 1 level 0 by row; pew 0 up 20 saws 0; pew 1 up 10 saws 0;"
                + "person tall 170 grows 0 heel 0; person tall 160 grows 0 heel 0; person tall 150 grows 0 heel 0;"
                + "sits 0 0 0; sits 1 1 0; sits 2 2 0;");
        // 40 apart; 0 with 1: 30; 0 with 2: 0; 1 with 2: 30.
        due("the best, neither the first nor the last that is better", z.pair(0), 2);
        LevelSunday absent = Checks.church("church pews 2 places 1 level 0 by row; pew 0 up 10 saws 0;"
                + "person tall 150 grows 0 heel 0;".repeat(3) + "sits 0 0 0; sits 1 1 0;");
        due("not with one who sits nowhere", absent.pair(0), -1);
    }

    private static void wears() {
        LevelSunday x = Checks.church(FULL);
        due("wears(0, 8)", x.wears(0, 8), -2);
        due("wears(0, -2)", x.wears(0, -2), -2);
        due("wears(8, 0)", x.wears(8, 0), -2);
        due("wears(-1, 0)", x.wears(-1, 0), -2);
        due("wears(8, -1)", x.wears(8, -1), -2);
        due("wears(0, 7)", x.wears(0, 7), -1);
        due("who wore it wears none", x.person(7, 5), -1);
        due("his height without it", x.high(7, 0), 419);
        due("wears(0, 7) again", x.wears(0, 7), 7);
        due("he wears it still", x.person(0, 5), 7);
        due("wears(0, 0)", x.wears(0, 0), 7);
        due("wears(0, -1)", x.wears(0, -1), 0);
        due("wears(0, -1) again", x.wears(0, -1), -1);
        due("none", x.person(0, 5), -1);
        due("a hat let go can be worn", x.wears(7, 0), -1);
        due("no hats", Checks.church(row("level 0 by all", 100)).wears(0, 0), -2);
        due("no hats, none", Checks.church(row("level 0 by all", 100)).wears(0, -1), -1);
    }

    private static void stands() {
        LevelSunday x = Checks.church(FULL);
        due("stands(0, 5)", x.stands(0, 5), -2);
        due("stands(0, -1)", x.stands(0, -1), -2);
        due("stands(8, 0)", x.stands(8, 0), -2);
        due("stands(-2, 0)", x.stands(-2, 0), -2);
        due("stands(-1, 5)", x.stands(-1, 5), -2);
        due("all on one still", x.person(7, 6), 31);
        due("stands(0, 4)", x.stands(0, 4), 7);
        due("one less", x.person(7, 6), 15);
        due("one more", x.person(0, 6), 16);
        due("stands(0, 4) again", x.stands(0, 4), 0);
        due("stands(-1, 4)", x.stands(-1, 4), 0);
        due("stands(-1, 4) again", x.stands(-1, 4), -1);
        due("none", x.person(0, 6), 0);
        due("no books", Checks.church(row("level 0 by all", 100)).stands(0, 0), -2);
        due("no books, nobody", Checks.church(row("level 0 by all", 100)).stands(-1, 0), -2);
    }

    private static void trench() {
        LevelSunday x = Checks.church(FULL);
        due("trench(3, 4, 0)", x.trench(3, 4, 0), 60);
        due("floor(3, 4)", x.floor(3, 4), -40);
        due("trench(3, 4, 60)", x.trench(3, 4, 60), 0);
        due("floor(3, 4)", x.floor(3, 4), -100);
        due("trench(3, 4, 61)", x.trench(3, 4, 61), -2);
        due("trench(3, 4, -1)", x.trench(3, 4, -1), -2);
        due("trench(3, 5, 1)", x.trench(3, 5, 1), -2);
        due("trench(4, 4, 1)", x.trench(4, 4, 1), -2);
        due("trench(-1, 4, 1)", x.trench(-1, 4, 1), -2);
        due("trench(3, -1, 1)", x.trench(3, -1, 1), -2);
        due("trench(3, 4, 1)", x.trench(3, 4, 1), 60);
        due("trench(0, 0, 60)", x.trench(0, 0, 60), 0);
        due("floor(0, 0)", x.floor(0, 0), -20);
        due("the next place stays", x.floor(0, 1), 40);
    }

    private static void digs() {
        LevelSunday x = Checks.church(row("level 0 by all", 160, 100));
        due("60", x.digs(0, 0), 60);
        due("of the lower", x.digs(1, 0), -1);
        LevelSunday y = Checks.church(row("level 0 by all", 161, 100));
        due("61", y.digs(0, 0), -1);
        y.law(1);
        due("60 by level 1", y.digs(0, 0), 60);
        y.trench(0, 0, 60);
        due("in place of what is there", y.digs(0, 0), 60);
        y.trench(0, 0, 7);
        due("in place of what is there", y.digs(0, 0), 60);
        due("what is there stays", y.floor(0, 0), -7);
        y.law(30);
        due("the shallowest", y.digs(0, 0), 31);
        LevelSunday one = Checks.church(row("level 0 by all", 100) + "person tall 100 grows 0 heel 0; trench 0 0 9;");
        due("none need be", one.digs(0, 0), 0);
        due("he sits nowhere", one.digs(1, 0), -2);
        due("digs(2, 0)", one.digs(2, 0), -2);
        due("digs(-1, 0)", one.digs(-1, 0), -2);
        due("digs(0, 31)", one.digs(0, 31), -2);
    }

    private static void law() {
        LevelSunday x = Checks.church(FULL);
        due("law(31)", x.law(31), -2);
        due("law(-1)", x.law(-1), -2);
        due("law(MIN)", x.law(Integer.MIN_VALUE), -2);
        due("it stays", x.count(2), 30);
        due("law(0)", x.law(0), 30);
        due("count(2)", x.count(2), 0);
        due("law(30)", x.law(30), 0);
        due("law(30) again", x.law(30), 30);
        due("by all stays", x.count(3), 1);
        due("without a church", new LevelSunday().law(0), -2);
    }

    private static void least() {
        LevelSunday x = Checks.church(FULL);
        due("beyond 30", x.least(30, 0), 719);
        // Pew 0 can be sawn by 9.
        due("by some sawing", x.least(30, 1), 710);
        due("least(0, 2)", x.least(0, 2), -2);
        due("least(0, -1)", x.least(0, -1), -2);
        due("level stays", x.count(2), 30);
        due("nothing is sawn", x.count(10), 0);
        x.cut(0, 9);
        due("as it is", x.least(30, 0), 710);
        due("nothing more", x.least(30, 1), 710);
        due("nobody sits", Checks.church(BARE).least(0, 0), 0);
        due("nobody sits", Checks.church(BARE).least(0, 1), 0);
        due("by row", Checks.church(pews("level 0 by row", 9, 100, 220)).least(0, 0), 0);
        due("by row, the worst", Checks.church(row("level 0 by row", 100, 101, 104)).least(0, 0), 4);
        due("saws mend no row", Checks.church(row("level 0 by row", 100, 104) + "pew 0 up 0 saws 9;").least(0, 1), 4);
        due("sawn to nothing", Checks.church(pews("level 0 by all", 9, 109, 100)).least(0, 1), 0);
        due("sawn to one", Checks.church(pews("level 0 by all", 9, 110, 100)).least(0, 1), 1);
    }

    /** Tall 100, without a heel, in the deepest trench of the lowest pew, all sawn: 9 inches below 0. */
    private static void lowestOfAll() {
        LevelSunday x = Checks.church("church pews 2 places 2 level 0 by all; pew 0 down 40 saws 9; pew 1 down 40 saws 9;"
                + "trench 0 0 60; trench 0 1 60; trench 1 0 60;" + "person tall 100 grows 0 heel 0;".repeat(3)
                + "sits 0 0 0; sits 1 0 1; hat 0; hat 0; book 30;");
        x.cut(0, 9);
        due("high", x.high(0, 0), -9);
        due("spread", x.spread(-1, 0), 0);
        due("level", x.level(0), 1);
        due("out", x.out(0, 0), 0);
        due("above", x.above(1, 0), 0);
        due("saws", x.saws(0), 0);
        due("ways", x.ways(0), 10);
        due("clash", x.clash(0), -1);
        due("books", x.books(0), 0);
        due("gifts", x.gifts(0), 1);
        due("hats", x.hats(0), 2);
        due("handed", x.handed(0, 1), 1);
        due("stilts", x.stilts(0, 0), 0);
        due("least", x.least(0, 0), 0);
        due("away", x.away(0), 0);
        x.sits(2, 1, 0);
        due("at 0", x.high(2, 0), 0);
        due("he is taller", x.above(2, 0), 2);
        due("he is sawn down to them", x.saw(0, 1), 9);
        due("in no other way", x.ways(0), 1);
        due("least as it is", x.least(0, 0), 9);
        due("least, sawn", x.least(0, 1), 0);
        due("nobody can be level with a hat", x.hats(0), 0);
        due("his stilts", x.stilts(2, 0), -1);
        due("he stays away", x.stay(0), 4);
    }
}
