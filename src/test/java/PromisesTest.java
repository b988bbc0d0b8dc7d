/** Each promise by hand: ordinary inputs, the edges that the document names, wrong inputs. */
public final class PromisesTest {
    /** Highs in year 0: 180, 182 (one more each year), 180; the fourth, 165 high, sits nowhere. */
    private static final String FOUR = "church pews 2 places 3 level 4 by all; pew 0 up 6 saws 5; pew 1 down 2 saws 3;"
            + "trench 1 2 4; person tall 170 grows 0 heel 1; person tall 174 grows 1 heel 0;"
            + "person tall 180 grows 0 heel 2; person tall 165 grows 2 heel 0; sits 0 0 0; sits 1 0 1; sits 2 1 0;"
            + "hat 3; hat 0; hat 5; wears 0 0; book 2; book 4; stands 1 0;";
    /** Highs in year 0: 175 (one more each year), 171. */
    private static final String TWO = "church pews 2 places 2 level 2 by all; pew 0 up 5 saws 6; pew 1 up 0 saws 2;"
            + "person tall 170 grows 1 heel 0; person tall 171 grows 0 heel 0; sits 0 0 0; sits 1 1 0;";
    private static final String EMPTY = "church pews 1 places 1 level 0 by row;";
    private static final int FAR = Integer.MAX_VALUE;
    private static final int DEEP = Integer.MIN_VALUE;

    private static final Checks CHECKS = new Checks("PromisesTest");

    public static void main(String[] args) {
        newObject();
        feedAndEnd();
        churchAndFault();
        faults();
        strikes();
        whatIsThere();
        heights();
        byRow();
        sawing();
        sawingLater();
        clashes();
        books();
        hats();
        rings();
        kinds();
        away();
        stiltsAndTrenches();
        humps();
        seats();
        hatsAndBooksChanged();
        lawAndLeast();
        seen();
        seenWrongly();
        draws();
        images();
        rows();
        paste();
        noChurch();
        emptyChurch();
        CHECKS.finish();
    }

    private static void due(String call, long got, long want) {
        CHECKS.due(call, got, want);
    }

    private static void newObject() {
        LevelSunday x = new LevelSunday();
        for (int what = 0; what <= 11; what++) {
            due("new count(" + what + ")", x.count(what), 0);
        }
        due("new count(12)", x.count(12), -1);
        due("new count(-1)", x.count(-1), -1);
        due("new fault(0)", x.fault(0), 0);
        due("new fault(1)", x.fault(1), -1);
        due("new fault(2)", x.fault(2), -1);
        due("NONE", LevelSunday.NONE, -1);
    }

    private static void feedAndEnd() {
        LevelSunday x = new LevelSunday();
        // "church pews 1 places", highest byte first
        due("feed", x.feed(0x63687572, 0x63682070, 0x65777320, 0x3120706c, 0x61636573), 20);
        // " 1 level 0 by row;ZZ"
        due("feed", x.feed(0x2031206c, 0x6576656c, 0x20302062, 0x7920726f, 0x773b5a5a), 40);
        due("count(9)", x.count(9), 40);
        due("end(41)", x.end(41), -1);
        due("end(-1)", x.end(-1), -1);
        due("end(FAR)", x.end(FAR), -1);
        due("count(9)", x.count(9), 40);
        due("end(38)", x.end(38), 38);
        due("end(39)", x.end(39), -1);
        due("church", x.church(), 1);
        due("count(9)", x.count(9), 0);
        due("end(0)", x.end(0), 0);
        due("end(1)", x.end(1), -1);
        for (int n = 1; n <= 70; n++) {
            due("feed " + n, x.feed(-1, 0, 0, 0, 0), 20 * n);
        }
        due("feed 71", x.feed(0, 0, 0, 0, 0), -1);
        due("count(9)", x.count(9), 1400);
        due("end(1381)", x.end(1381), 1381);
        due("feed at 1381", x.feed(0, 0, 0, 0, 0), -1);
        due("count(9)", x.count(9), 1381);
        due("end(1380)", x.end(1380), 1380);
        due("feed at 1380", x.feed(0, 0, 0, 0, 0), 1400);
        due("church", x.church(), -4);
        due("fault(1)", x.fault(1), 0);
    }

    private static void churchAndFault() {
        LevelSunday x = new LevelSunday();
        due("church", Checks.read(x, FOUR), 18);
        due("fault(0)", x.fault(0), 0);
        due("fault(1)", x.fault(1), -1);
        due("cut", x.cut(0, 1), 1);
        due("faulty church", Checks.read(x, EMPTY + "pew 1"), -4);
        due("fault(0)", x.fault(0), 2);
        due("fault(1)", x.fault(1), 42);
        due("fault(2)", x.fault(2), -1);
        due("fault(-1)", x.fault(-1), -1);
        due("tape is empty", x.count(9), 0);
        due("all else stays", x.count(8), 18);
        due("also what is sawn", x.count(10), 1);
        due("church again", Checks.read(x, FOUR), 18);
        due("nothing is sawn", x.count(10), 0);
        due("fault(0)", x.fault(0), 0);
        due("blanks alone", Checks.read(x, " \n\n "), 0);
        due("there is none", x.level(0), -2);
        due("no lines", x.count(8), 0);
        due("no pews", x.count(0), 0);
        due("without blanks", Checks.read(x, "church pews1places1level0by row;pew0up3saws1;hat7;"), 3);
        due("pew", x.pew(0, 0), 3);
        due("zeros ahead", Checks.read(x, "church pews 0000000000000000004 places 05 level 030 by all;"), 1);
        due("pews", x.count(0), 4);
        due("places", x.count(1), 5);
        due("level", x.count(2), 30);
        due("by all", x.count(3), 1);
    }

    private static void fault(String text, int want, int place) {
        LevelSunday x = new LevelSunday();
        due("'" + text + "'", Checks.read(x, text), -4);
        due("fault of '" + text + "'", x.fault(0), want);
        due("place of '" + text + "'", x.fault(1), place);
    }

    private static void faults() {
        String p = "person tall 100 grows 0 heel 0;";
        fault("pew 0 up 1 saws 1;", 1, 0);
        fault(";", 1, 0);
        fault("7", 1, 0);
        fault("  church", 1, 8);
        fault("church pews 1 places 1 level 0 by row ", 1, 38);
        fault("church pews 1 places 1 level 0 by pew;", 1, 34);
        fault("church pews 1 places 1 level 0 by;", 1, 33);
        fault("churchpews 1 places 1 level 0 by row;", 1, 0);
        fault("church pews 0 places 1 level 0 by row;", 2, 12);
        fault("church pews 5 places 1 level 0 by row;", 2, 12);
        fault("church pews 4 places 6 level 0 by row;", 2, 21);
        fault("church pews 4 places 0 level 0 by row;", 2, 21);
        fault("church pews 4 places 5 level 31 by row;", 2, 29);
        fault("church pews 4294967297 places 5 level 3 by row;", 2, 12);
        fault("church pews one places 5 level 3 by row;", 1, 12);
        fault("church 3", 1, 7);
        int at = EMPTY.length();
        fault(EMPTY + EMPTY, 1, at);
        fault(EMPTY + ";", 1, at);
        fault(EMPTY + "Pew", 1, at);
        fault(EMPTY + "hat 3.;", 1, at + 5);
        fault(EMPTY + "hat 3\t;", 1, at + 5);
        fault(EMPTY + "hat 31;", 2, at + 4);
        fault(EMPTY + "book 0;", 2, at + 5);
        fault(EMPTY + "book 31;", 2, at + 5);
        fault(EMPTY + "pew 0 up 41 saws 0;", 2, at + 9);
        fault(EMPTY + "pew 0 down 41 saws 0;", 2, at + 11);
        fault(EMPTY + "pew 0 left 4 saws 0;", 1, at + 6);
        fault(EMPTY + "pew 0 up 40 saws 10;", 2, at + 17);
        fault(EMPTY + "trench 0 1 5;", 2, at + 9);
        fault(EMPTY + "trench 0 0 0;", 2, at + 11);
        fault(EMPTY + "trench 0 0 61;", 2, at + 11);
        fault(EMPTY + "person tall 99 grows 0 heel 0;", 2, at + 12);
        fault(EMPTY + "person tall 221 grows 0 heel 0;", 2, at + 12);
        fault(EMPTY + "person tall 220 grows 10 heel 0;", 2, at + 22);
        fault(EMPTY + "person tall 220 grows 9 heel 10;", 2, at + 29);
        fault(EMPTY + "sits 0 0 0;", 2, at + 5);
        fault(EMPTY + p + "sits 0 0 0; sits 0 9 9;", 2, at + p.length() + 17);
        fault(EMPTY + p + p + "sits 0 0 0; sits 1 0 0;", 2, at + 2 * p.length() + 21);
        fault(EMPTY + p + p + "sits 0 0 0; sits 1 1 0;", 2, at + 2 * p.length() + 19);
        fault(EMPTY + p + "wears 0 0;", 2, at + p.length() + 8);
        fault(EMPTY + p + "hat 1; hat 1; wears 0 0; wears 0 1;", 2, at + p.length() + 31);
        fault(EMPTY + p + p + "hat 1; wears 0 0; wears 1 0;", 2, at + 2 * p.length() + 26);
        fault(EMPTY + p + "stands 0 0;", 2, at + p.length() + 9);
        fault(EMPTY + p + "book 1; stands 0 0; stands 0 0;", 2, at + p.length() + 29);
        fault(EMPTY + "book 1; stands 0 0;", 2, at + 15);
        fault(EMPTY + p.repeat(9), 3, at + 8 * p.length());
        fault(EMPTY + "hat 0;".repeat(8) + "hat", 3, at + 48);
        fault(EMPTY + "book 1;".repeat(5) + "book 99", 3, at + 35);
        fault(EMPTY + "hat 0;".repeat(8) + "\u00ff", 1, at + 48);
        LevelSunday x = Checks.church(EMPTY + p.repeat(8) + "hat 30;".repeat(8) + "book 30;".repeat(5));
        due("eight people", x.count(4), 8);
        due("eight hats", x.count(6), 8);
        due("five books", x.count(7), 5);
        due("lines", x.count(8), 22);
    }

    private static void strikes() {
        LevelSunday x = Checks.church("church pews 2 places 1 level 0 by row; pew 0 up 40 saws 9; pew 0 down 40 saws 1;"
                + "trench 0 0 1; trench 0 0 60;");
        due("a later pew strikes", x.pew(0, 0), -40);
        due("also its saws", x.pew(0, 1), 1);
        due("without: up 0", x.pew(1, 0), 0);
        due("without: saws 0", x.pew(1, 1), 0);
        due("a later trench strikes", x.floor(0, 0), -100);
    }

    private static void whatIsThere() {
        LevelSunday x = Checks.church(FOUR);
        int[] counts = {2, 3, 4, 1, 4, 7, 3, 2, 18, 0, 0, 0};
        for (int what = 0; what < counts.length; what++) {
            due("count(" + what + ")", x.count(what), counts[what]);
        }
        due("count(12)", x.count(12), -1);
        int[] pew0 = {6, 5, 0, 2};
        int[] pew1 = {-2, 3, 0, 1};
        for (int what = 0; what < 4; what++) {
            due("pew(0, " + what + ")", x.pew(0, what), pew0[what]);
            due("pew(1, " + what + ")", x.pew(1, what), pew1[what]);
        }
        due("pew(2, 0)", x.pew(2, 0), -100);
        due("pew(-1, 0)", x.pew(-1, 0), -100);
        due("pew(0, 4)", x.pew(0, 4), -100);
        due("pew(0, -1)", x.pew(0, -1), -100);
        due("floor(0, 2)", x.floor(0, 2), 6);
        due("floor(1, 1)", x.floor(1, 1), -2);
        due("floor(1, 2)", x.floor(1, 2), -6);
        due("floor(2, 0)", x.floor(2, 0), -1000);
        due("floor(0, 3)", x.floor(0, 3), -1000);
        due("floor(-1, 0)", x.floor(-1, 0), -1000);
        due("floor(0, -1)", x.floor(0, -1), -1000);
        due("who(0, 1)", x.who(0, 1), 1);
        due("who(0, 2)", x.who(0, 2), -1);
        due("who(1, 0)", x.who(1, 0), 2);
        due("who(0, 3)", x.who(0, 3), -2);
        due("who(-1, -1)", x.who(-1, -1), -2);
        int[] one = {174, 1, 0, 0, 1, -1, 1};
        int[] three = {165, 2, 0, -1, -1, -1, 0};
        for (int what = 0; what < 7; what++) {
            due("person(1, " + what + ")", x.person(1, what), one[what]);
            due("person(3, " + what + ")", x.person(3, what), three[what]);
        }
        due("person(0, 5)", x.person(0, 5), 0);
        due("person(0, 7)", x.person(0, 7), -2);
        due("person(0, -1)", x.person(0, -1), -2);
        due("person(4, 0)", x.person(4, 0), -2);
        due("person(-1, 0)", x.person(-1, 0), -2);
        due("thing(0, 2)", x.thing(0, 2), 5);
        due("thing(0, 3)", x.thing(0, 3), -2);
        due("thing(0, -1)", x.thing(0, -1), -2);
        due("thing(1, 1)", x.thing(1, 1), 4);
        due("thing(1, 2)", x.thing(1, 2), -2);
        due("thing(2, 0)", x.thing(2, 0), -2);
    }

    private static void heights() {
        LevelSunday x = Checks.church(FOUR);
        due("high(0, 0)", x.high(0, 0), 180);
        due("high(1, 0)", x.high(1, 0), 182);
        due("high(1, 30)", x.high(1, 30), 212);
        due("high(2, 0)", x.high(2, 0), 180);
        due("high(3, 5)", x.high(3, 5), 175);
        due("high(4, 0)", x.high(4, 0), -1000);
        due("high(-1, 0)", x.high(-1, 0), -1000);
        due("high(0, 31)", x.high(0, 31), -1000);
        due("high(0, -1)", x.high(0, -1), -1000);
        due("spread(-1, 0)", x.spread(-1, 0), 2);
        due("spread(0, 9)", x.spread(0, 9), 11);
        due("spread(1, 9)", x.spread(1, 9), 0);
        due("spread(2, 0)", x.spread(2, 0), -2);
        due("spread(-2, 0)", x.spread(-2, 0), -2);
        due("spread(-1, 31)", x.spread(-1, 31), -2);
        due("level(2)", x.level(2), 1);
        due("level(3)", x.level(3), 0);
        due("level(-1)", x.level(-1), -2);
        due("level(31)", x.level(31), -2);
        due("first(0)", x.first(0), 3);
        due("first(9)", x.first(9), 9);
        due("first(31)", x.first(31), -2);
        due("first(-1)", x.first(-1), -2);
        due("out(0, 0)", x.out(0, 0), 1);
        due("out(0, 1)", x.out(0, 1), 0);
        due("out(0, 2)", x.out(0, 2), -2);
        due("out(0, -1)", x.out(0, -1), -2);
        due("out(31, 0)", x.out(31, 0), -2);
        due("above(1, 0)", x.above(1, 0), 2);
        due("above(0, 0)", x.above(0, 0), 0);
        due("above(3, 0)", x.above(3, 0), -2);
        due("above(4, 0)", x.above(4, 0), -2);
        due("above(-1, 0)", x.above(-1, 0), -2);
        due("above(1, 31)", x.above(1, 31), -2);
    }

    /** Two pews far from one another, each level by itself. */
    private static void byRow() {
        LevelSunday x = Checks.church("church pews 2 places 2 level 3 by row; pew 0 up 30 saws 4; pew 1 up 0 saws 1;"
                + "person tall 170 grows 0 heel 0; person tall 173 grows 0 heel 0; person tall 170 grows 0 heel 0;"
                + "person tall 172 grows 1 heel 0; sits 0 0 0; sits 1 0 1; sits 2 1 0; sits 3 1 1;");
        due("by row level(0)", x.level(0), 1);
        due("by row spread(-1, 0)", x.spread(-1, 0), 33);
        due("by row level(2)", x.level(2), 0);
        due("by row first(0)", x.first(0), 2);
        due("by row saws(0)", x.saws(0), 0);
        due("by row ways(0)", x.ways(0), 10);
        due("by row saws(2)", x.saws(2), -1);
        due("by row ways(2)", x.ways(2), 0);
        due("by row lasts", x.lasts(), 1);
        due("by row shuts(2)", x.shuts(2), 12);
        due("by row least(2, 0)", x.least(2, 0), 4);
        due("by row least(2, 1)", x.least(2, 1), 4);
        due("by row stay(2)", x.stay(2), 4);
        due("by row stilts(2, 2)", x.stilts(2, 2), 1);
        due("by row lengths(2, 2)", x.lengths(2, 2), 7);
    }

    private static void sawing() {
        LevelSunday x = Checks.church(TWO);
        due("saws(0)", x.saws(0), 2);
        due("saw(0, 0)", x.saw(0, 0), 2);
        due("saw(0, 1)", x.saw(0, 1), 0);
        due("ways(0)", x.ways(0), 12);
        due("saws(5)", x.saws(5), -1);
        due("saw(5, 0)", x.saw(5, 0), -1);
        due("ways(5)", x.ways(5), 0);
        due("saws(31)", x.saws(31), -2);
        due("saw(5, 2)", x.saw(5, 2), -2);
        due("saw(5, -1)", x.saw(5, -1), -2);
        due("saw(-1, 0)", x.saw(-1, 0), -2);
        due("ways(-1)", x.ways(-1), -2);
        due("cut(0, 7)", x.cut(0, 7), -2);
        due("cut(0, -1)", x.cut(0, -1), -2);
        due("cut(0, FAR)", x.cut(0, FAR), -2);
        due("cut(2, 0)", x.cut(2, 0), -2);
        due("cut(0, 2)", x.cut(0, 2), 2);
        due("high(0, 0)", x.high(0, 0), 173);
        due("pew(0, 2)", x.pew(0, 2), 2);
        due("floor(0, 1)", x.floor(0, 1), 3);
        due("saws(0)", x.saws(0), 0);
        due("ways(0)", x.ways(0), 12);
        due("saw(1, 0)", x.saw(1, 0), 1);
        due("cut(0, 5)", x.cut(0, 5), -2);
        due("cut(0, 4)", x.cut(0, 4), 6);
        due("cut(0, 0)", x.cut(0, 0), 6);
        due("count(10)", x.count(10), 6);
    }

    private static void sawingLater() {
        LevelSunday x = Checks.church(TWO);
        for (int n = 0; n <= 4; n++) {
            due("ever(" + n + ")", x.ever(n), n + 2);
            due("sawn(" + n + ", 0)", x.sawn(n, 0), n + 2);
            due("sawn(" + n + ", 1)", x.sawn(n, 1), 0);
        }
        due("ever(5)", x.ever(5), -1);
        due("sawn(5, 0)", x.sawn(5, 0), -1);
        due("sawn(5, 2)", x.sawn(5, 2), -2);
        due("sawn(31, 0)", x.sawn(31, 0), -2);
        due("ever(31)", x.ever(31), -2);
        due("ever(-1)", x.ever(-1), -2);
        due("lasts()", x.lasts(), 4);
        x.cut(0, 2);
        due("ever(4) when sawn", x.ever(4), 4);
        due("sawn(4, 0) when sawn", x.sawn(4, 0), 4);
        x.cut(1, 2);
        due("lasts() when the other is sawn", x.lasts(), 2);
        // What was sawn of pew 0 for year 0 stays, and pew 1, that grows beyond it, must follow.
        LevelSunday y = Checks.church("church pews 2 places 1 level 1 by all; pew 0 up 4 saws 9; pew 1 up 0 saws 2;"
                + "person tall 170 grows 0 heel 0; person tall 170 grows 2 heel 0; sits 0 0 0; sits 1 1 0;");
        due("saws(0)", y.saws(0), 3);
        due("saws(2)", y.saws(2), 0);
        due("ever(1)", y.ever(1), 3);
        due("ever(2)", y.ever(2), 5);
        due("sawn(2, 0)", y.sawn(2, 0), 3);
        due("sawn(2, 1)", y.sawn(2, 1), 2);
        due("ever(3)", y.ever(3), -1);
        due("lasts", y.lasts(), 2);
        LevelSunday z = Checks.church("church pews 1 places 2 level 0 by row; person tall 170 grows 0 heel 0;"
                + "person tall 171 grows 0 heel 0; sits 0 0 0; sits 1 0 1;");
        due("lasts, not even 0", z.lasts(), -1);
        z.law(1);
        due("lasts, always", z.lasts(), 30);
    }

    private static void clashes() {
        LevelSunday x = Checks.church(FOUR);
        due("clash(2)", x.clash(2), -1);
        due("shuts(2)", x.shuts(2), -1);
        due("clash(3)", x.clash(3), 2);
        due("shuts(3)", x.shuts(3), 3);
        due("clash(31)", x.clash(31), -2);
        due("shuts(-1)", x.shuts(-1), -2);
        // In year 9 pew 0 (191 at most) can be sawn to 186 at least, six above pew 1: both pairs clash.
        due("shuts(9)", x.shuts(9), 3);
        due("sits(0, -1, 0)", x.sits(0, -1, 0), 0);
        due("shuts(9) without 0", x.shuts(9), 6);
        due("saws(7) without 0", x.saws(7), 5);
        due("clash(7) without 0", x.clash(7), -1);
        due("clash(8) without 0", x.clash(8), 2);
    }

    /** Highs without books: 170, 173, 175; by all, level 1. */
    private static void books() {
        String three = "church pews 1 places 4 level 1 by all; person tall 170 grows 0 heel 0;"
                + "person tall 173 grows 0 heel 0; person tall 175 grows 1 heel 0; person tall 100 grows 0 heel 0;"
                + "sits 0 0 0; sits 1 0 1; sits 2 0 2;";
        LevelSunday x = Checks.church(three + "book 2; book 1; book 5; book 2; book 3; stands 1 0; stands 3 4;");
        due("level(0)", x.level(0), 0);
        // 175 stays or gets 1; 173 needs 1, 2 or 3; 170 needs 4, 5 or 6.
        due("books(0)", x.books(0), 2);
        // Books 1, 3 and 4 would do for 173; nobody comes ahead of people, so the last.
        int[] owners = {-1, -1, 0, -1, 1};
        for (int b = 0; b < 5; b++) {
            due("given(0, " + b + ")", x.given(0, b), owners[b]);
        }
        due("given(0, 5)", x.given(0, 5), -2);
        due("given(0, -1)", x.given(0, -1), -2);
        due("given(31, 0)", x.given(31, 0), -2);
        due("books(31)", x.books(31), -2);
        due("gifts(-1)", x.gifts(-1), -2);
        due("what is told stays", x.person(1, 6), 1);
        LevelSunday y = Checks.church(three + "book 3; book 5;");
        // To 170: book 1; to 173: book 0; 175 has none: the only way.
        due("gifts(0)", y.gifts(0), 1);
        due("books(0)", y.books(0), 2);
        due("given(0, 0)", y.given(0, 0), 1);
        due("given(0, 1)", y.given(0, 1), 0);
        due("books(1)", y.books(1), 2);
        due("books(2)", y.books(2), -1);
        due("given(2, 0)", y.given(2, 0), -1);
        due("gifts(2)", y.gifts(2), 0);
        LevelSunday z = Checks.church("church pews 1 places 2 level 30 by all; person tall 170 grows 0 heel 0;"
                + "person tall 171 grows 0 heel 0; sits 0 0 0; sits 1 0 1; book 1; book 2; book 3;");
        due("books(0) without need", z.books(0), 0);
        due("given(0, 2) without need", z.given(0, 2), -1);
        due("gifts(0), each to two or nobody", z.gifts(0), 27);
    }

    private static void hats() {
        LevelSunday x = Checks.church(FOUR);
        // Without hats 177, 182, 180: within 4 by hats of 3, 0, 5 inches.
        // 0: 180, 177, 182; 1: 185, 182, 187; 2: 183, 180, 185. 0,1,2 -> 180 182 185 no; 2,1,0 -> 182 182 183.
        // 0,2,1 -> 180 187 no; 1,.. -> 177 no; 2,0,1 -> 182 185 180 no.
        due("hats(0)", x.hats(0), 1);
        due("handed(0, 0)", x.handed(0, 0), 2);
        due("handed(0, 1)", x.handed(0, 1), 1);
        due("handed(0, 2)", x.handed(0, 2), 0);
        due("handed(0, 3)", x.handed(0, 3), -2);
        due("handed(0, 4)", x.handed(0, 4), -2);
        due("handed(31, 0)", x.handed(31, 0), -2);
        due("hats(31)", x.hats(31), -2);
        due("hats(4)", x.hats(4), 1);
        due("hats(5)", x.hats(5), 0);
        due("handed(5, 0)", x.handed(5, 0), -1);
        due("rings(5, 0)", x.rings(5, 0), -1);
        due("bare()", x.bare(), 6);
        x.law(5);
        due("hats(0), law 5", x.hats(0), 3);
        due("handed(0, 0), law 5", x.handed(0, 0), 0);
        due("handed(0, 1), law 5", x.handed(0, 1), 1);
        due("handed(0, 2), law 5", x.handed(0, 2), 2);
        x.sits(3, 1, 1);
        due("more than hats", x.hats(0), 0);
    }

    private static void rings() {
        StringBuilder s = new StringBuilder("church pews 1 places 5 level 0 by all;");
        int[] tall = {170, 171, 172, 173, 174};
        for (int p = 0; p < 5; p++) {
            s.append("person tall " + tall[p] + " grows 0 heel 0; hat " + (4 - p) + "; sits " + p + " 0 " + p + ";");
        }
        // All are level only if hat p is on person p.
        LevelSunday x = Checks.church(s + "wears 0 1; wears 1 0; wears 2 3; wears 3 4; wears 4 2;");
        due("hats(0)", x.hats(0), 1);
        due("rings(0, 0)", x.rings(0, 0), 2);
        due("rings(0, 1)", x.rings(0, 1), 3);
        due("rings(0, 2)", x.rings(0, 2), -2);
        due("rings(0, -1)", x.rings(0, -1), -2);
        due("rings(31, 0)", x.rings(31, 0), -2);
        due("bare", x.bare(), 0);
        x.wears(3, -1);
        due("a chain is none", x.rings(0, 0), 1);
        due("the longest of one", x.rings(0, 1), 2);
        due("bare", x.bare(), 8);
        x.wears(0, 0);
        x.wears(1, 1);
        due("hats that stay are none", x.rings(0, 0), 0);
        due("the longest of none", x.rings(0, 1), 0);
    }

    private static void kinds() {
        LevelSunday x = Checks.church("church pews 2 places 3 level 2 by row; pew 0 up 40 saws 0;"
                + "person tall 170 grows 0 heel 0; person tall 171 grows 0 heel 0; person tall 172 grows 0 heel 0;"
                + "person tall 172 grows 1 heel 0; person tall 173 grows 0 heel 0; person tall 190 grows 0 heel 0;"
                + "sits 0 0 0; sits 1 0 1; sits 2 0 2; sits 3 1 0; sits 4 1 1;");
        due("kinds(0)", x.kinds(0), 2);
        due("kinds(5)", x.kinds(5), 3);
        due("kinds(31)", x.kinds(31), -2);
        due("wide(0, 2)", x.wide(0, 2), 1);
        due("wide(0, 3)", x.wide(0, 3), 1);
        due("wide(0, 4)", x.wide(0, 4), 0);
        due("wide(0, FAR)", x.wide(0, FAR), 0);
        due("wide(0, 1): places", x.wide(0, 1), -1);
        due("wide(0, 0)", x.wide(0, 0), -1);
        due("wide(0, -1)", x.wide(0, -1), -2);
        due("wide(-1, 1)", x.wide(-1, 1), -2);
        due("wide(30, 2)", x.wide(30, 2), 29);
    }

    private static void away() {
        LevelSunday x = Checks.church(FOUR);
        due("away(2)", x.away(2), 0);
        due("stay(2)", x.stay(2), 0);
        due("away(3)", x.away(3), 1);
        due("stay(3)", x.stay(3), 2);
        due("away(31)", x.away(31), -2);
        due("stay(-1)", x.stay(-1), -2);
        LevelSunday y = Checks.church(TWO);
        due("the least of several", y.stay(0), 1);
        y.cut(0, 2);
        due("as it is sawn", y.away(0), 0);
    }

    private static void stiltsAndTrenches() {
        LevelSunday x = Checks.church(FOUR);
        // Year 5: 180, 187, 180.
        due("stilts(0, 5)", x.stilts(0, 5), -1);
        due("stilts(1, 5)", x.stilts(1, 5), -1);
        due("digs(1, 5)", x.digs(1, 5), 3);
        due("digs(0, 5)", x.digs(0, 5), -1);
        due("stilts(0, 0)", x.stilts(0, 0), 0);
        due("lengths(0, 0)", x.lengths(0, 0), 5);
        due("lengths(0, 5)", x.lengths(0, 5), 0);
        due("stilts(3, 0)", x.stilts(3, 0), -2);
        due("lengths(3, 0)", x.lengths(3, 0), -2);
        due("digs(3, 0)", x.digs(3, 0), -2);
        due("stilts(0, 31)", x.stilts(0, 31), -2);
        due("lengths(4, 0)", x.lengths(4, 0), -2);
        due("digs(0, -1)", x.digs(0, -1), -2);
        due("trench(0, 1, 10)", x.trench(0, 1, 10), 0);
        due("high(1, 0)", x.high(1, 0), 172);
        due("stilts(1, 0)", x.stilts(1, 0), 4);
        due("lengths(1, 0)", x.lengths(1, 0), 9);
        due("digs in place of what is", x.digs(1, 0), 0);
        due("digs(1, 5)", x.digs(1, 5), 3);
        due("trench(0, 1, 0)", x.trench(0, 1, 0), 10);
        due("trench(1, 2, 60)", x.trench(1, 2, 60), 4);
        due("trench(1, 2, 61)", x.trench(1, 2, 61), -2);
        due("trench(1, 2, -1)", x.trench(1, 2, -1), -2);
        due("trench(2, 0, 1)", x.trench(2, 0, 1), -2);
        due("trench(0, 3, 1)", x.trench(0, 3, 1), -2);
        due("floor(1, 2)", x.floor(1, 2), -62);
        LevelSunday far = Checks.church("church pews 1 places 2 level 0 by all; person tall 100 grows 0 heel 0;"
                + "person tall 199 grows 1 heel 0; sits 0 0 0; sits 1 0 1;");
        due("stilts of 99", far.stilts(0, 0), 99);
        due("stilts of 100", far.stilts(0, 1), -1);
        due("digs of 99", far.digs(1, 0), -1);
    }

    private static void humps() {
        LevelSunday x = Checks.church("church pews 2 places 5 level 2 by row; person tall 170 grows 0 heel 0;"
                + "person tall 173 grows 1 heel 0; person tall 170 grows 0 heel 0; person tall 172 grows 1 heel 0;"
                + "person tall 169 grows 0 heel 0; sits 0 0 0; sits 1 0 1; sits 2 0 2; sits 3 0 3; sits 4 0 4;");
        due("hump(0, 0, 0)", x.hump(0, 0, 0), 1);
        due("hump(0, 0, 1)", x.hump(0, 0, 1), 1);
        due("hump(0, 1, 0)", x.hump(0, 1, 0), 2);
        due("hump(1, 1, 0)", x.hump(1, 1, 0), 0);
        due("hump(1, 1, 1)", x.hump(1, 1, 1), -1);
        due("hump(2, 0, 0)", x.hump(2, 0, 0), -2);
        due("hump(-1, 0, 0)", x.hump(-1, 0, 0), -2);
        due("hump(0, 31, 0)", x.hump(0, 31, 0), -2);
        due("hump(0, 0, 2)", x.hump(0, 0, 2), -2);
        x.sits(0, -1, 0);
        due("a neighbour is away", x.hump(0, 1, 1), 3);
        x.trench(0, 4, 0);
        x.trench(0, 3, 1);
        due("floors count", x.hump(0, 1, 0), 0);
    }

    private static void seats() {
        LevelSunday x = Checks.church(FOUR);
        // The fourth is 165 and 2 a year: on 6 he is 171, 178 from year 4 on (179), but then 1 is out.
        due("seat(3, 0)", x.seat(3, 0), -1);
        due("law(11)", x.law(11), 4);
        due("seat(3, 0), law 11", x.seat(3, 0), 2);
        due("seat(3, 3), law 11", x.seat(3, 3), 2);
        due("one who sits, not where he sits", x.seat(2, 0), 2);
        due("seat(4, 0)", x.seat(4, 0), -2);
        due("seat(0, 31)", x.seat(0, 31), -2);
        due("seat(-1, 0)", x.seat(-1, 0), -2);
        due("sits(3, 1, 1)", x.sits(3, 1, 1), -1);
        due("high(3, 0)", x.high(3, 0), 163);
        due("sits(3, 1, 2)", x.sits(3, 1, 2), 101);
        due("taken", x.sits(3, 0, 1), -2);
        due("taken by himself", x.sits(3, 1, 2), -2);
        due("no such pew", x.sits(3, 2, 0), -2);
        due("no such pew", x.sits(3, -2, 0), -2);
        due("no such place", x.sits(3, 0, 3), -2);
        due("no such place", x.sits(3, 0, -1), -2);
        due("no such person", x.sits(4, 0, 2), -2);
        due("no such person", x.sits(-1, -1, 0), -2);
        due("who(1, 2)", x.who(1, 2), 3);
        due("nowhere", x.sits(3, -1, DEEP), 102);
        due("nowhere still", x.sits(3, -1, 0), -1);
        due("who(1, 2)", x.who(1, 2), -1);
        due("change(0, 2)", x.change(0, 2), 0);
        due("who(0, 0)", x.who(0, 0), 2);
        due("who(1, 0)", x.who(1, 0), 0);
        due("high(2, 0)", x.high(2, 0), 188);
        due("change(0, 0)", x.change(0, 0), -2);
        due("change(0, 3)", x.change(0, 3), -2);
        due("change(3, 0)", x.change(3, 0), -2);
        due("change(0, 4)", x.change(0, 4), -2);
        due("change(-1, 0)", x.change(-1, 0), -2);
        // 172, 182, 188: changed back they are 180, 182, 180.
        due("pair(0)", x.pair(0), 2);
        due("pair(31)", x.pair(31), -2);
        x.change(0, 2);
        due("none makes it less", x.pair(0), -1);
        LevelSunday y = Checks.church("church pews 2 places 2 level 0 by row; pew 0 up 4 saws 0;"
                + "person tall 174 grows 0 heel 0; person tall 174 grows 0 heel 0; person tall 170 grows 0 heel 0;"
                + "person tall 170 grows 0 heel 0; sits 0 0 0; sits 1 0 1; sits 2 1 0; sits 3 1 1;");
        due("one change isn't enough", y.pair(0), -1);
        y.change(1, 3);
        due("the first of several", y.pair(0), 2);
    }

    private static void hatsAndBooksChanged() {
        LevelSunday x = Checks.church(FOUR);
        due("wears(1, 0)", x.wears(1, 0), -1);
        due("who wore it wears none", x.person(0, 5), -1);
        due("person(1, 5)", x.person(1, 5), 0);
        due("high(1, 0)", x.high(1, 0), 185);
        due("wears(1, 0) again", x.wears(1, 0), 0);
        due("person(1, 5)", x.person(1, 5), 0);
        due("wears(1, 2)", x.wears(1, 2), 0);
        due("wears(1, -1)", x.wears(1, -1), 2);
        due("wears(1, -1)", x.wears(1, -1), -1);
        due("wears(1, 3)", x.wears(1, 3), -2);
        due("wears(1, -2)", x.wears(1, -2), -2);
        due("wears(4, 0)", x.wears(4, 0), -2);
        due("wears(-1, 0)", x.wears(-1, 0), -2);
        due("stands(1, 1)", x.stands(1, 1), -1);
        due("person(1, 6)", x.person(1, 6), 3);
        due("high(1, 0)", x.high(1, 0), 186);
        due("stands(3, 0)", x.stands(3, 0), 1);
        due("high(3, 0)", x.high(3, 0), 167);
        due("stands(-1, 0)", x.stands(-1, 0), 3);
        due("stands(-1, 0)", x.stands(-1, 0), -1);
        due("stands(-2, 0)", x.stands(-2, 0), -2);
        due("stands(4, 0)", x.stands(4, 0), -2);
        due("stands(0, 2)", x.stands(0, 2), -2);
        due("stands(0, -1)", x.stands(0, -1), -2);
    }

    private static void lawAndLeast() {
        LevelSunday x = Checks.church(TWO);
        due("least(0, 0)", x.least(0, 0), 4);
        due("least(0, 1)", x.least(0, 1), 0);
        due("least(5, 1)", x.least(5, 1), 3);
        due("least(0, 2)", x.least(0, 2), -2);
        due("least(0, -1)", x.least(0, -1), -2);
        due("least(31, 0)", x.least(31, 0), -2);
        due("law(31)", x.law(31), -2);
        due("law(-1)", x.law(-1), -2);
        due("law(30)", x.law(30), 2);
        due("law(3)", x.law(3), 30);
        due("count(2)", x.count(2), 3);
        due("level(0)", x.level(0), 0);
        due("law(4)", x.law(4), 3);
        due("level(0)", x.level(0), 1);
        due("least stays", x.least(0, 0), 4);
    }

    private static void fill(LevelSunday x, int slot, int width, long... numbers) {
        due("row", x.row(slot, width, numbers.length), 0);
        for (int i = 0; i < numbers.length; i++) {
            due("write", x.write(slot, i, numbers[i]), 0);
        }
    }

    private static void seen() {
        LevelSunday x = Checks.church(FOUR);
        // Without floors: 174, 176, 182, 165 in year 0.
        fill(x, 0, 1, 0, 0, 180, 1, 2, 170);
        due("seen(0, 0)", x.seen(0, 0), 1);
        due("sure(0, 0, 0)", x.sure(0, 0, 0), 0);
        due("sure(0, 0, 1)", x.sure(0, 0, 1), 1);
        due("sure(0, 0, 2)", x.sure(0, 0, 2), -1);
        due("sure(0, 0, -1)", x.sure(0, 0, -1), -1);
        due("odd(0, 0)", x.odd(0, 0), 1);
        due("seen in another year", x.seen(0, 1), 0);
        due("sure of none", x.sure(0, 1, 0), -1);
        fill(x, 1, 3, 0, 1, 182, 0, 0, 180, 1, 0, 180);
        due("odd, all are", x.odd(1, 0), -1);
        due("odd later", x.odd(1, 1), 0);
        due("seen(1, 0)", x.seen(1, 0), 1);
        fill(x, 2, 2);
        due("an empty row, one way", x.seen(2, 0), 1);
        due("an empty row, sure", x.sure(2, 0, 0), -1);
        due("an empty row, odd", x.odd(2, 0), -1);
        // A byte holds -128 .. 127: 180 becomes -76.
        fill(x, 3, 0, 0, 0, 180);
        due("cut to a byte", x.seen(3, 0), 0);
        LevelSunday y = Checks.church("church pews 1 places 3 level 0 by row;"
                + "person tall 170 grows 0 heel 0; person tall 170 grows 0 heel 0; person tall 171 grows 0 heel 0;");
        fill(y, 0, 1, 0, 0, 170, 0, 2, 171);
        due("two ways", y.seen(0, 0), 2);
        due("not the same", y.sure(0, 0, 0), -1);
        due("the same by all", y.sure(0, 0, 1), 2);
        due("nobody sits there", y.odd(0, 0), 0);
        fill(y, 0, 3, 0, 0, 170 + (1L << 32));
        due("eight bytes are not cut", y.seen(0, 0), 0);
        fill(y, 0, 2, 0, 0, 170 + (1L << 32));
        due("four bytes are", y.seen(0, 0), 2);
        fill(y, 0, 1, 65536, 0, 170 + 65536);
        due("two bytes are", y.seen(0, 0), 2);
        LevelSunday low = Checks.church("church pews 1 places 1 level 0 by row; pew 0 down 40 saws 9; trench 0 0 60;"
                + "person tall 100 grows 0 heel 0;");
        low.cut(0, 9);
        fill(low, 0, 0, 0, 0, -9);
        due("below the floor", low.seen(0, 0), 1);
    }

    private static void seenWrongly() {
        LevelSunday x = Checks.church(FOUR);
        fill(x, 0, 1, 0, 0, 180, 0, 0, 180);
        due("told twice", x.seen(0, 0), -2);
        due("told twice, sure", x.sure(0, 0, 0), -2);
        due("told twice, odd", x.odd(0, 0), -2);
        fill(x, 0, 1, 0, 3, 180);
        due("no such place", x.seen(0, 0), -2);
        fill(x, 0, 1, 2, 0, 180);
        due("no such pew", x.seen(0, 0), -2);
        fill(x, 0, 3, 1L << 32, 0, 180);
        due("a pew far off", x.seen(0, 0), -2);
        fill(x, 0, 1, 0, -1, 180);
        due("a place below 0", x.odd(0, 0), -2);
        fill(x, 0, 1, 0, 0);
        due("not three each", x.seen(0, 0), -2);
        due("nothing", x.seen(1, 0), -6);
        due("nothing, sure", x.sure(1, 0, 0), -6);
        due("nothing, odd", x.odd(1, 0), -6);
        due("no such slot", x.seen(4, 0), -2);
        due("no such slot", x.sure(-1, 0, 0), -2);
        due("no such year, nothing", x.seen(1, 31), -2);
        due("no such year", x.odd(0, -1), -2);
        LevelSunday many = Checks.church("church pews 4 places 5 level 0 by row; person tall 170 grows 0 heel 0;");
        long[] all = new long[60];
        for (int i = 0; i < 20; i++) {
            all[3 * i] = i / 5;
            all[3 * i + 1] = i % 5;
            all[3 * i + 2] = 170;
        }
        fill(many, 3, 1, all);
        due("twenty places, one person", many.seen(3, 0), 0);
        due("sure of the last", many.sure(3, 0, 19), -1);
        many.write(3, 58, 3);
        due("the last is told twice", many.seen(3, 0), -2);
    }

    private static void draws() {
        LevelSunday x = Checks.church(TWO);
        // From 0: x = 12345, draw 0; then 1406932606, 21468 % 10 = 8; 654583775, 9988 % 10 = 8;
        // 1449466924, 22117 % 10 = 7.
        due("grown(0, 0, 0)", x.grown(0, 0, 0), 175);
        due("grown(0, 0, 1)", x.grown(0, 0, 1), 175);
        due("grown(0, 1, 1)", x.grown(0, 1, 1), 179);
        due("grown(0, 0, 2)", x.grown(0, 0, 2), 183);
        due("grown(0, 1, 2)", x.grown(0, 1, 2), 186);
        due("grown(0, 2, 0)", x.grown(0, 2, 0), -1000);
        due("grown(0, -1, 0)", x.grown(0, -1, 0), -1000);
        due("grown(0, 0, 31)", x.grown(0, 0, 31), -1000);
        due("grown(-1, 0, 0)", x.grown(-1, 0, 0), -1000);
        due("grown(2000000001, 0, 0)", x.grown(2_000_000_001, 0, 0), -1000);
        due("drawn(0)", x.drawn(0), 0);
        x.law(4);
        due("drawn(0), law 4", x.drawn(0), -1 + firstOver(4));
        due("drawn(-1)", x.drawn(-1), -2);
        due("drawn(2000000001)", x.drawn(2_000_000_001), -2);
        due("drawn(2000000000) is one", x.drawn(2_000_000_000) >= -1 ? 1 : 0, 1);
        due("years(0, 1, 2)", x.years(0, 1, 2), 1);
        due("years(0, 20, 0)", x.years(0, 20, 0), 20);
        due("years(0, 0, 0)", x.years(0, 0, 0), -2);
        due("years(0, 21, 0)", x.years(0, 21, 0), -2);
        due("years(-1, 1, 0)", x.years(-1, 1, 0), -2);
        due("years(2000000001, 1, 0)", x.years(2_000_000_001, 1, 0), -2);
        due("years(0, 1, 31)", x.years(0, 1, 31), -2);
        due("years(0, 1, -1)", x.years(0, 1, -1), -2);
        due("seeds beyond the last count", x.years(2_000_000_000, 20, 0), 20);
        x.law(0);
        due("years of none", x.years(0, 20, 0), 0);
    }

    /** One more than the first year, by draws from 0, in which the two of TWO are further apart than so many. */
    private static int firstOver(int inches) {
        long x = 0;
        int one = 175;
        int other = 171;
        for (int year = 1; year <= 30; year++) {
            x = (1103515245L * x + 12345) % (1L << 31);
            one += (int) (x >> 16) % 10;
            x = (1103515245L * x + 12345) % (1L << 31);
            other += (int) (x >> 16) % 10;
            if (Math.abs(one - other) > inches) {
                return year + 1;
            }
        }
        return 0;
    }

    private static void images() {
        LevelSunday x = new LevelSunday();
        due("image(3)", x.image(3), -2);
        due("image(-1)", x.image(-1), -2);
        due("back(3)", x.back(3), -2);
        due("back(-1)", x.back(-1), -2);
        due("back(0)", x.back(0), -6);
        due("image(0) of none", x.image(0), 0);
        due("church", Checks.read(x, FOUR), 18);
        due("image(2)", x.image(2), 0);
        x.cut(0, 3);
        x.sits(3, 1, 1);
        x.wears(1, 2);
        x.stands(0, 1);
        x.trench(0, 0, 9);
        x.law(7);
        x.row(0, 0, 3);
        Checks.tape(x, "xy");
        due("image(1)", x.image(1), 0);
        due("back(2)", x.back(2), 0);
        due("sawn", x.pew(0, 2), 0);
        due("sits", x.person(3, 3), -1);
        due("wears", x.person(1, 5), -1);
        due("stands", x.person(0, 6), 0);
        due("floor", x.floor(0, 0), 6);
        due("level", x.count(2), 4);
        due("rows stay", x.count(11), 1);
        due("the tape stays", x.count(9), 2);
        due("back(0)", x.back(0), 0);
        due("none again", x.level(0), -2);
        due("no lines", x.count(8), 0);
        due("back(1)", x.back(1), 0);
        due("sawn", x.pew(0, 2), 3);
        due("lines", x.count(8), 18);
        due("sits", x.who(1, 1), 3);
        due("image(1) once more", x.image(1), 0);
        x.cut(0, 1);
        x.back(1);
        due("back a second time", x.pew(0, 2), 3);
    }

    private static void rows() {
        LevelSunday x = new LevelSunday();
        due("row(4, 0, 1)", x.row(4, 0, 1), -2);
        due("row(-1, 0, 1)", x.row(-1, 0, 1), -2);
        due("row(0, 4, 1)", x.row(0, 4, 1), -2);
        due("row(0, -1, 1)", x.row(0, -1, 1), -2);
        due("row(0, 0, 61)", x.row(0, 0, 61), -2);
        due("row(0, 0, -1)", x.row(0, 0, -1), -3);
        due("row(0, 4, -1)", x.row(0, 4, -1), -2);
        due("row(4, 0, -1)", x.row(4, 0, -1), -2);
        due("count(11)", x.count(11), 0);
        due("write(0, 0, 1)", x.write(0, 0, 1), -6);
        due("row(0, 0, 60)", x.row(0, 0, 60), 0);
        due("row(3, 3, 0)", x.row(3, 3, 0), 0);
        due("count(11)", x.count(11), 2);
        due("row(0, 0, -5) stays", x.row(0, 0, -5), -3);
        due("write(0, 59, 1)", x.write(0, 59, 1), 0);
        due("write(0, 60, 1)", x.write(0, 60, 1), -7);
        due("write(0, -1, 1)", x.write(0, -1, 1), -7);
        due("write(3, 0, 1)", x.write(3, 0, 1), -7);
        due("write(4, 0, 1)", x.write(4, 0, 1), -2);
        due("write(-1, 0, 1)", x.write(-1, 0, 1), -2);
        due("in place of another", x.row(0, 1, 2), 0);
        due("write(0, 2, 1)", x.write(0, 2, 1), -7);
        LevelSunday y = Checks.church("church pews 1 places 1 level 0 by row; person tall 170 grows 0 heel 0;");
        fill(y, 0, 1, 0, 0, 170);
        due("seen", y.seen(0, 0), 1);
        due("all are 0 in a new row", y.row(0, 1, 3), 0);
        due("not seen", y.seen(0, 0), 0);
    }

    private static void paste() {
        LevelSunday x = Checks.church("church pews 1 places 4 level 0 by row; person tall 100 grows 0 heel 0;"
                + "person tall 101 grows 0 heel 0; person tall 102 grows 0 heel 0; person tall 103 grows 0 heel 0;");
        fill(x, 0, 1, 0, 1, 100, 0, 2, 101, 0, 3, 102);
        fill(x, 1, 1, 0, 0, 103);
        fill(x, 2, 2, 0, 0, 103);
        due("paste(0, 0, 3, 0, 1)", x.paste(0, 0, 3, 0, 1), -6);
        due("paste(3, 0, 0, 0, 1)", x.paste(3, 0, 0, 0, 1), -6);
        due("paste(4, 0, 3, 0, 1)", x.paste(4, 0, 3, 0, 1), -2);
        due("paste(3, 0, -1, 0, 1)", x.paste(3, 0, -1, 0, 1), -2);
        due("paste(0, 99, 2, 0, 1)", x.paste(0, 99, 2, 0, 1), -8);
        due("paste(0, 8, 1, 0, 2)", x.paste(0, 8, 1, 0, 2), -7);
        due("paste(0, 0, 1, 2, 2)", x.paste(0, 0, 1, 2, 2), -7);
        due("paste(0, -1, 1, 0, 1)", x.paste(0, -1, 1, 0, 1), -7);
        due("paste(0, 0, 1, -1, 1)", x.paste(0, 0, 1, -1, 1), -7);
        due("paste(0, 0, 1, 0, -1)", x.paste(0, 0, 1, 0, -1), -7);
        due("paste(0, FAR, 1, 0, FAR)", x.paste(0, FAR, 1, 0, FAR), -7);
        due("paste(0, 1, 1, 0, FAR)", x.paste(0, 1, 1, 0, FAR), -7);
        due("n is 0, at the ends", x.paste(0, 9, 1, 3, 0), 0);
        due("n is 0, beyond", x.paste(0, 10, 1, 3, 0), -7);
        due("n is 0, beyond", x.paste(0, 9, 1, 4, 0), -7);
        due("nothing happened", x.sure(1, 0, 0), 3);
        due("paste(0, 3, 1, 0, 3)", x.paste(0, 3, 1, 0, 3), 0);
        due("pasted", x.sure(1, 0, 0), 1);
        due("forward over itself", x.paste(0, 0, 0, 3, 6), 0);
        x.write(0, 1, 0);
        x.write(0, 2, 102);
        due("as they were: 100 at 1", x.sure(0, 0, 1), 0);
        due("as they were: 101 at 2", x.sure(0, 0, 2), 1);
        due("as written: 102 at 0", x.sure(0, 0, 0), 2);
        due("backward over itself", x.paste(0, 3, 0, 0, 6), 0);
        due("last told twice", x.seen(0, 0), -2);
        x.write(0, 7, 0);
        x.write(0, 8, 103);
        due("backward", x.sure(0, 0, 0), 0);
        due("backward", x.sure(0, 0, 1), 1);
        due("behind", x.sure(0, 0, 2), 3);
    }

    private static void noChurch() {
        LevelSunday x = new LevelSunday();
        due("pew", x.pew(0, 0), -100);
        due("floor", x.floor(0, 0), -1000);
        due("high", x.high(0, 0), -1000);
        due("grown", x.grown(0, 0, 0), -1000);
        int[] answers = {x.who(0, 0), x.person(0, 0), x.thing(0, 0), x.spread(-1, 0), x.level(0), x.first(0),
            x.out(0, 0), x.above(0, 0), x.saws(0), x.saw(0, 0), x.ways(0), x.ever(0), x.sawn(0, 0), x.lasts(),
            x.clash(0), x.shuts(0), x.cut(0, 0), x.books(0), x.given(0, 0), x.gifts(0), x.hats(0), x.handed(0, 0),
            x.rings(0, 0), x.bare(), x.kinds(0), x.wide(0, 0), x.away(0), x.stay(0), x.stilts(0, 0), x.lengths(0, 0),
            x.hump(0, 0, 0), x.seat(0, 0), x.sits(0, -1, 0), x.change(0, 1), x.pair(0), x.wears(0, -1),
            x.stands(-1, 0), x.trench(0, 0, 0), x.digs(0, 0), x.law(0), x.least(0, 0), x.seen(0, 0), x.sure(0, 0, 0),
            x.odd(0, 0), x.drawn(0), x.years(0, 1, 0)};
        for (int i = 0; i < answers.length; i++) {
            due("without a church, " + i, answers[i], -2);
        }
    }

    private static void emptyChurch() {
        LevelSunday x = Checks.church(EMPTY);
        due("level", x.level(0), 1);
        due("first", x.first(0), -1);
        due("spread", x.spread(-1, 0), 0);
        due("spread", x.spread(0, 30), 0);
        due("out, nobody", x.out(0, 0), -1);
        due("out, no such what", x.out(0, 2), -2);
        due("saws", x.saws(0), 0);
        due("ways", x.ways(30), 1);
        due("ever", x.ever(30), 0);
        due("lasts", x.lasts(), 30);
        due("clash", x.clash(0), -1);
        due("shuts", x.shuts(0), -1);
        due("books", x.books(0), 0);
        due("gifts", x.gifts(0), 1);
        due("hats", x.hats(0), 1);
        due("rings", x.rings(0, 0), 0);
        due("rings", x.rings(0, 1), 0);
        due("bare", x.bare(), 0);
        due("kinds", x.kinds(0), 0);
        due("wide", x.wide(0, 0), 0);
        due("away", x.away(0), 0);
        due("stay", x.stay(0), 0);
        due("pair", x.pair(0), -1);
        due("least", x.least(0, 0), 0);
        due("least", x.least(0, 1), 0);
        due("drawn", x.drawn(2_000_000_000), -1);
        due("years", x.years(5, 20, 30), 20);
        due("hump", x.hump(0, 0, 1), -1);
        LevelSunday y = Checks.church("church pews 2 places 1 level 0 by all; pew 0 up 9 saws 9; pew 1 up 0 saws 4;");
        due("ways, nobody sits", y.ways(0), 50);
    }
}
