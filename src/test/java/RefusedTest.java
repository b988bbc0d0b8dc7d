import java.util.function.ToIntFunction;

/** A refused call, and one that only asks, leaves all as it was: told by all that can be asked, on two objects. */
public final class RefusedTest {
    private static final int MAX = Integer.MAX_VALUE;
    private static final int MIN = Integer.MIN_VALUE;
    private static final String FIRST = "church pews 2 places 3 level 4 by all; pew 0 up 6 saws 5; pew 1 down 2 saws 3;"
            + "trench 1 2 4; person tall 170 grows 0 heel 1; person tall 174 grows 1 heel 0;"
            + "person tall 180 grows 0 heel 2; person tall 165 grows 2 heel 0; sits 0 0 0; sits 1 0 1; sits 2 1 0;"
            + "hat 3; hat 0; hat 5; wears 0 0; book 2; book 4; stands 1 0;";
    private static final String SECOND = "church pews 1 places 2 level 9 by row; person tall 150 grows 1 heel 3;"
            + "sits 0 0 1; hat 2; wears 0 0;";
    /** Its first 43 bytes stay on the tape: a church of one line, and no more than blanks. */
    private static final String LEFT = "church pews 3 places 4 level 5 by all;     ";

    private static final Checks CHECKS = new Checks("RefusedTest");
    private static String withChurch;
    private static String without;

    public static void main(String[] args) {
        withChurch = dump(prepare(true));
        without = dump(prepare(false));
        CHECKS.isTrue("what is told differs", !withChurch.equals(without));
        told();
        tape();
        changes();
        images();
        rows();
        pastes();
        yearsAsked();
        othersAsked();
        seenAsked();
        drawsAsked();
        noChurch();
        faulty();
        asked();
        CHECKS.finish();
    }

    private static LevelSunday prepare(boolean church) {
        LevelSunday x = new LevelSunday();
        Checks.read(x, SECOND);
        x.image(1);
        if (church) {
            Checks.read(x, FIRST);
            x.cut(0, 2);
        }
        Checks.read(x, (church ? FIRST : SECOND) + "hat 99;");
        if (!church) {
            x.church();
            Checks.read(x, "hat");
        }
        x.row(0, 1, 6);
        long[] numbers = {0, 0, 180, 1, 1, 180};
        for (int i = 0; i < numbers.length; i++) {
            x.write(0, i, numbers[i]);
        }
        x.row(1, 0, 2);
        x.row(3, 1, 3);
        x.write(3, 0, 1);
        x.write(3, 2, 180);
        Checks.tape(x, LEFT);
        return x;
    }

    /** Asks all that can be asked; what changes by asking comes last. */
    private static String dump(LevelSunday x) {
        StringBuilder s = new StringBuilder();
        church(x, s);
        s.append("\nfault ").append(x.fault(0)).append(' ').append(x.fault(1)).append("\nrows");
        for (int slot = 0; slot < 4; slot++) {
            for (int to = slot; to < 4; to++) {
                s.append(' ').append(x.paste(slot, 0, to, 0, 0));
            }
            for (int n : new int[] {2, 3, 6}) {
                s.append(' ').append(x.paste(slot, n, slot, n, 0));
            }
        }
        s.append("\nimages");
        s.append(' ').append(x.image(2));
        for (int k = 0; k < 2; k++) {
            s.append("\nimage ").append(k).append(' ').append(x.back(k));
            church(x, s);
        }
        // A church of which the rows tell, as there may have been none.
        x.back(2);
        int bytes = x.count(9);
        s.append("\ntape ").append(bytes).append(' ').append(x.church());
        church(x, s);
        Checks.read(x, FIRST);
        for (int slot = 0; slot < 4; slot++) {
            s.append("\nrow ").append(x.seen(slot, 0)).append(' ').append(x.odd(slot, 0));
            for (int i = 0; i < 2; i++) {
                s.append(' ').append(x.sure(slot, 0, i));
            }
        }
        return s.toString();
    }

    private static void church(LevelSunday x, StringBuilder s) {
        s.append("\ncount");
        for (int what = 0; what <= 11; what++) {
            s.append(' ').append(x.count(what));
        }
        s.append("\npews");
        for (int pew = 0; pew < x.count(0); pew++) {
            s.append(' ').append(x.pew(pew, 0)).append(' ').append(x.pew(pew, 1)).append(' ').append(x.pew(pew, 2));
            for (int place = 0; place < x.count(1); place++) {
                s.append(' ').append(x.floor(pew, place)).append(' ').append(x.who(pew, place));
            }
        }
        s.append("\npeople");
        for (int p = 0; p < x.count(4); p++) {
            for (int what = 0; what < 7; what++) {
                s.append(' ').append(x.person(p, what));
            }
            s.append(' ').append(x.high(p, 1));
        }
        s.append("\nthings");
        for (int i = 0; i < 3; i++) {
            s.append(' ').append(x.thing(0, i)).append(' ').append(x.thing(1, i));
        }
    }

    private static void refused(String call, int want, ToIntFunction<LevelSunday> asked) {
        stays(call, want, asked, true);
    }

    private static void refusedWithout(String call, int want, ToIntFunction<LevelSunday> asked) {
        stays(call, want, asked, false);
    }

    private static void stays(String call, int want, ToIntFunction<LevelSunday> asked, boolean church) {
        LevelSunday x = prepare(church);
        CHECKS.due(call, asked.applyAsInt(x), want);
        String after = dump(x);
        String before = church ? withChurch : without;
        CHECKS.isTrue(call + " leaves all as it was" + (after.equals(before) ? "" : ": " + before + " .. " + after),
                after.equals(before));
    }

    /** What is told tells all that there is, so that a change would show. */
    private static void told() {
        String[] parts = {"\ncount 2 3 4 1 4 7 3 2 18 43 2 3\n",
            "\npews 6 5 2 4 0 4 1 4 -1 -2 3 0 -2 2 -2 -1 -6 -1\n",
            "\npeople 170 0 1 0 0 0 0 178 174 1 0 0 1 -1 1 181 180 0 2 1 0 -1 0 180 165 2 0 -1 -1 -1 0 167\n",
            "\nthings 3 2 0 4 5 -2\n", "\nfault 2 " + (FIRST.length() + 4) + "\n", "\nimage 0 -6\n",
            "\nimage 1 0\ncount 1 2 9 0 1 1 1 0 5 43 0 3\n", "\ntape 43 1\ncount 3 4 5 1 0 0 0 0 1 0 0 3\n",
            "\nrow 1 1 0 2\nrow -2 -2 -2 -2\nrow -6 -6 -6 -6\nrow 1 -1 2 -1"};
        for (String part : parts) {
            CHECKS.isTrue("what is told has" + part + "in " + withChurch, withChurch.contains(part));
        }
        CHECKS.isTrue("without a church", without.startsWith("\ncount 0 0 0 0 0 0 0 0 0 43 0 3"));
    }

    private static void tape() {
        refused("end(-1)", -1, x -> x.end(-1));
        refused("end(44)", -1, x -> x.end(44));
        refused("end(MAX)", -1, x -> x.end(MAX));
        refused("end(MIN)", -1, x -> x.end(MIN));
        refused("end(43) of 43", 43, x -> x.end(43));
        LevelSunday full = new LevelSunday();
        Checks.tape(full, LEFT + " ".repeat(1381 - LEFT.length()));
        CHECKS.due("feed at 1381", full.feed(0x68617468, 1, 1, 1, 1), -1);
        CHECKS.due("count(9)", full.count(9), 1381);
        CHECKS.due("what was there is there", full.church(), 1);
    }

    private static void changes() {
        refused("cut(0, 4)", -2, x -> x.cut(0, 4));
        refused("cut(0, -1)", -2, x -> x.cut(0, -1));
        refused("cut(0, MAX)", -2, x -> x.cut(0, MAX));
        refused("cut(0, MIN)", -2, x -> x.cut(0, MIN));
        refused("cut(2, 0)", -2, x -> x.cut(2, 0));
        refused("cut(-1, 1)", -2, x -> x.cut(-1, 1));
        refused("cut(0, 0)", 2, x -> x.cut(0, 0));
        refused("sits(0, 0, 0)", -2, x -> x.sits(0, 0, 0));
        refused("sits(3, 1, 0)", -2, x -> x.sits(3, 1, 0));
        refused("sits(3, 2, 0)", -2, x -> x.sits(3, 2, 0));
        refused("sits(3, -2, 0)", -2, x -> x.sits(3, -2, 0));
        refused("sits(0, 1, 3)", -2, x -> x.sits(0, 1, 3));
        refused("sits(0, 1, -1)", -2, x -> x.sits(0, 1, -1));
        refused("sits(4, 1, 1)", -2, x -> x.sits(4, 1, 1));
        refused("sits(-1, -1, 0)", -2, x -> x.sits(-1, -1, 0));
        refused("sits(3, -1, 0)", -1, x -> x.sits(3, -1, 0));
        refused("change(0, 0)", -2, x -> x.change(0, 0));
        refused("change(0, 3)", -2, x -> x.change(0, 3));
        refused("change(3, 0)", -2, x -> x.change(3, 0));
        refused("change(0, 4)", -2, x -> x.change(0, 4));
        refused("change(-1, 0)", -2, x -> x.change(-1, 0));
        refused("wears(1, 3)", -2, x -> x.wears(1, 3));
        refused("wears(0, -2)", -2, x -> x.wears(0, -2));
        refused("wears(4, 0)", -2, x -> x.wears(4, 0));
        refused("wears(-1, 0)", -2, x -> x.wears(-1, 0));
        refused("wears(0, 0)", 0, x -> x.wears(0, 0));
        refused("stands(1, 2)", -2, x -> x.stands(1, 2));
        refused("stands(1, -1)", -2, x -> x.stands(1, -1));
        refused("stands(4, 0)", -2, x -> x.stands(4, 0));
        refused("stands(-2, 0)", -2, x -> x.stands(-2, 0));
        refused("stands(1, 0)", 1, x -> x.stands(1, 0));
        refused("trench(1, 2, 61)", -2, x -> x.trench(1, 2, 61));
        refused("trench(1, 2, -1)", -2, x -> x.trench(1, 2, -1));
        refused("trench(2, 2, 1)", -2, x -> x.trench(2, 2, 1));
        refused("trench(1, 3, 1)", -2, x -> x.trench(1, 3, 1));
        refused("trench(-1, 0, 1)", -2, x -> x.trench(-1, 0, 1));
        refused("trench(1, 2, 4)", 4, x -> x.trench(1, 2, 4));
        refused("law(31)", -2, x -> x.law(31));
        refused("law(-1)", -2, x -> x.law(-1));
        refused("law(4)", 4, x -> x.law(4));
    }

    private static void images() {
        refused("image(3)", -2, x -> x.image(3));
        refused("image(-1)", -2, x -> x.image(-1));
        refused("back(3)", -2, x -> x.back(3));
        refused("back(-1)", -2, x -> x.back(-1));
        refused("back(0)", -6, x -> x.back(0));
        refused("back(2)", -6, x -> x.back(2));
        refusedWithout("back(0)", -6, x -> x.back(0));
    }

    private static void rows() {
        refused("row(0, 1, -1)", -3, x -> x.row(0, 1, -1));
        refused("row(0, 0, MIN)", -3, x -> x.row(0, 0, MIN));
        refused("row(2, 1, -1)", -3, x -> x.row(2, 1, -1));
        refused("row(0, 1, 61)", -2, x -> x.row(0, 1, 61));
        refused("row(0, 4, 3)", -2, x -> x.row(0, 4, 3));
        refused("row(0, -1, 3)", -2, x -> x.row(0, -1, 3));
        refused("row(4, 0, 3)", -2, x -> x.row(4, 0, 3));
        refused("row(-1, 0, 3)", -2, x -> x.row(-1, 0, 3));
        refused("write(0, 6, 5)", -7, x -> x.write(0, 6, 5));
        refused("write(0, -1, 5)", -7, x -> x.write(0, -1, 5));
        refused("write(2, 0, 5)", -6, x -> x.write(2, 0, 5));
        refused("write(4, 0, 5)", -2, x -> x.write(4, 0, 5));
        refused("write(-1, 0, 5)", -2, x -> x.write(-1, 0, 5));
        refused("write(0, 2, 180)", 0, x -> x.write(0, 2, 180));
        refused("write(0, 2, 180 + 65536)", 0, x -> x.write(0, 2, 180 + 65_536));
    }

    private static void pastes() {
        refused("paste(0, 4, 3, 0, 3)", -7, x -> x.paste(0, 4, 3, 0, 3));
        refused("paste(0, 0, 3, 0, 4)", -7, x -> x.paste(0, 0, 3, 0, 4));
        refused("paste(3, 0, 0, 4, 3)", -7, x -> x.paste(3, 0, 0, 4, 3));
        refused("paste(3, 1, 0, 0, 3)", -7, x -> x.paste(3, 1, 0, 0, 3));
        refused("paste(3, -1, 0, 0, 2)", -7, x -> x.paste(3, -1, 0, 0, 2));
        refused("paste(3, 0, 0, -1, 2)", -7, x -> x.paste(3, 0, 0, -1, 2));
        refused("paste(3, 1, 0, 1, -1)", -7, x -> x.paste(3, 1, 0, 1, -1));
        refused("paste(3, 0, 0, 7, 0)", -7, x -> x.paste(3, 0, 0, 7, 0));
        refused("paste(3, 4, 0, 0, 0)", -7, x -> x.paste(3, 4, 0, 0, 0));
        refused("paste(3, 1, 0, 0, MAX)", -7, x -> x.paste(3, 1, 0, 0, MAX));
        refused("paste(1, 0, 0, 0, 2)", -8, x -> x.paste(1, 0, 0, 0, 2));
        refused("paste(0, 0, 1, 0, 2)", -8, x -> x.paste(0, 0, 1, 0, 2));
        refused("paste(0, 0, 2, 0, 2)", -6, x -> x.paste(0, 0, 2, 0, 2));
        refused("paste(2, 0, 0, 0, 2)", -6, x -> x.paste(2, 0, 0, 0, 2));
        refused("paste(4, 0, 0, 0, 2)", -2, x -> x.paste(4, 0, 0, 0, 2));
        refused("paste(0, 0, -1, 0, 2)", -2, x -> x.paste(0, 0, -1, 0, 2));
        refused("paste(3, 1, 0, 1, 0)", 0, x -> x.paste(3, 1, 0, 1, 0));
        refused("paste(0, 0, 0, 0, 6)", 0, x -> x.paste(0, 0, 0, 0, 6));
    }

    private static void yearsAsked() {
        for (int year : new int[] {-1, 31, MIN, MAX}) {
            String of = " of year " + year;
            refused("high" + of, -1000, x -> x.high(0, year));
            refused("spread" + of, -2, x -> x.spread(-1, year));
            refused("level" + of, -2, x -> x.level(year));
            refused("first" + of, -2, x -> x.first(year));
            refused("out" + of, -2, x -> x.out(year, 0));
            refused("above" + of, -2, x -> x.above(0, year));
            refused("saws" + of, -2, x -> x.saws(year));
            refused("saw" + of, -2, x -> x.saw(year, 0));
            refused("ways" + of, -2, x -> x.ways(year));
            refused("ever" + of, -2, x -> x.ever(year));
            refused("sawn" + of, -2, x -> x.sawn(year, 0));
            refused("clash" + of, -2, x -> x.clash(year));
            refused("shuts" + of, -2, x -> x.shuts(year));
            refused("books" + of, -2, x -> x.books(year));
            refused("given" + of, -2, x -> x.given(year, 0));
            refused("gifts" + of, -2, x -> x.gifts(year));
            refused("hats" + of, -2, x -> x.hats(year));
            refused("handed" + of, -2, x -> x.handed(year, 0));
            refused("rings" + of, -2, x -> x.rings(year, 0));
            refused("kinds" + of, -2, x -> x.kinds(year));
            refused("wide" + of, -2, x -> x.wide(year, 1));
            refused("away" + of, -2, x -> x.away(year));
            refused("stay" + of, -2, x -> x.stay(year));
            refused("stilts" + of, -2, x -> x.stilts(0, year));
            refused("lengths" + of, -2, x -> x.lengths(0, year));
            refused("hump" + of, -2, x -> x.hump(0, year, 0));
            refused("seat" + of, -2, x -> x.seat(0, year));
            refused("pair" + of, -2, x -> x.pair(year));
            refused("digs" + of, -2, x -> x.digs(0, year));
            refused("least" + of, -2, x -> x.least(year, 0));
            refused("seen" + of, -2, x -> x.seen(0, year));
            refused("sure" + of, -2, x -> x.sure(0, year, 0));
            refused("odd" + of, -2, x -> x.odd(0, year));
            refused("grown" + of, -1000, x -> x.grown(0, 0, year));
            refused("years" + of, -2, x -> x.years(0, 1, year));
        }
    }

    private static void othersAsked() {
        refused("pew(2, 0)", -100, x -> x.pew(2, 0));
        refused("pew(0, 4)", -100, x -> x.pew(0, 4));
        refused("floor(0, 3)", -1000, x -> x.floor(0, 3));
        refused("who(0, 3)", -2, x -> x.who(0, 3));
        refused("person(4, 0)", -2, x -> x.person(4, 0));
        refused("person(0, 7)", -2, x -> x.person(0, 7));
        refused("thing(2, 0)", -2, x -> x.thing(2, 0));
        refused("thing(1, 2)", -2, x -> x.thing(1, 2));
        refused("fault(2)", -1, x -> x.fault(2));
        refused("count(12)", -1, x -> x.count(12));
        refused("high(4, 0)", -1000, x -> x.high(4, 0));
        refused("spread(2, 0)", -2, x -> x.spread(2, 0));
        refused("out(0, 2)", -2, x -> x.out(0, 2));
        refused("above(3, 0)", -2, x -> x.above(3, 0));
        refused("saw(0, 2)", -2, x -> x.saw(0, 2));
        refused("sawn(0, 2)", -2, x -> x.sawn(0, 2));
        refused("given(0, 2)", -2, x -> x.given(0, 2));
        refused("handed(0, 3)", -2, x -> x.handed(0, 3));
        refused("rings(0, 2)", -2, x -> x.rings(0, 2));
        refused("wide(0, -1)", -2, x -> x.wide(0, -1));
        refused("stilts(3, 0)", -2, x -> x.stilts(3, 0));
        refused("lengths(3, 0)", -2, x -> x.lengths(3, 0));
        refused("hump(2, 0, 0)", -2, x -> x.hump(2, 0, 0));
        refused("hump(0, 0, 2)", -2, x -> x.hump(0, 0, 2));
        refused("seat(4, 0)", -2, x -> x.seat(4, 0));
        refused("digs(3, 0)", -2, x -> x.digs(3, 0));
        refused("least(0, 2)", -2, x -> x.least(0, 2));
    }

    private static void seenAsked() {
        refused("seen(4, 0)", -2, x -> x.seen(4, 0));
        refused("seen(-1, 0)", -2, x -> x.seen(-1, 0));
        refused("seen(2, 0)", -6, x -> x.seen(2, 0));
        refused("seen(1, 0)", -2, x -> x.seen(1, 0));
        refused("sure(4, 0, 0)", -2, x -> x.sure(4, 0, 0));
        refused("sure(2, 0, 0)", -6, x -> x.sure(2, 0, 0));
        refused("sure(1, 0, 0)", -2, x -> x.sure(1, 0, 0));
        refused("sure(0, 0, 2)", -1, x -> x.sure(0, 0, 2));
        refused("odd(4, 0)", -2, x -> x.odd(4, 0));
        refused("odd(2, 0)", -6, x -> x.odd(2, 0));
        refused("odd(1, 0)", -2, x -> x.odd(1, 0));
    }

    private static void drawsAsked() {
        refused("drawn(-1)", -2, x -> x.drawn(-1));
        refused("drawn(2000000001)", -2, x -> x.drawn(2_000_000_001));
        refused("grown(-1, 0, 0)", -1000, x -> x.grown(-1, 0, 0));
        refused("grown(2000000001, 0, 0)", -1000, x -> x.grown(2_000_000_001, 0, 0));
        refused("grown(0, 4, 0)", -1000, x -> x.grown(0, 4, 0));
        refused("years(-1, 1, 0)", -2, x -> x.years(-1, 1, 0));
        refused("years(2000000001, 1, 0)", -2, x -> x.years(2_000_000_001, 1, 0));
        refused("years(0, 0, 0)", -2, x -> x.years(0, 0, 0));
        refused("years(0, 21, 0)", -2, x -> x.years(0, 21, 0));
    }

    private static void noChurch() {
        refusedWithout("law(3)", -2, x -> x.law(3));
        refusedWithout("cut(0, 0)", -2, x -> x.cut(0, 0));
        refusedWithout("sits(0, 0, 0)", -2, x -> x.sits(0, 0, 0));
        refusedWithout("sits(0, -1, 0)", -2, x -> x.sits(0, -1, 0));
        refusedWithout("change(0, 1)", -2, x -> x.change(0, 1));
        refusedWithout("wears(0, 0)", -2, x -> x.wears(0, 0));
        refusedWithout("stands(0, 0)", -2, x -> x.stands(0, 0));
        refusedWithout("stands(-1, 0)", -2, x -> x.stands(-1, 0));
        refusedWithout("trench(0, 0, 1)", -2, x -> x.trench(0, 0, 1));
        refusedWithout("seen(0, 0)", -2, x -> x.seen(0, 0));
        refusedWithout("seen(2, 0), nothing there", -2, x -> x.seen(2, 0));
        refusedWithout("sure(2, 0, 0), nothing there", -2, x -> x.sure(2, 0, 0));
        refusedWithout("odd(2, 0), nothing there", -2, x -> x.odd(2, 0));
        refusedWithout("drawn(0)", -2, x -> x.drawn(0));
        refusedWithout("lasts()", -2, LevelSunday::lasts);
        refusedWithout("bare()", -2, LevelSunday::bare);
    }

    /** A faulty text empties the tape and tells its fault; all else stays. */
    private static void faulty() {
        String[] texts = {"hat 3;", SECOND + "pew 0 up 9 saws 9", SECOND + "person tall 99 grows 0 heel 0;",
            SECOND + "hat 0;".repeat(9), "!", "church"};
        for (String text : texts) {
            for (boolean church : new boolean[] {true, false}) {
                LevelSunday x = prepare(church);
                x.end(0);
                CHECKS.due("'" + text + "'", Checks.read(x, text), -4);
                CHECKS.due("'" + text + "' empties the tape", x.count(9), 0);
                Checks.tape(x, LEFT);
                String after = dump(x).replaceAll("\nfault .*", "");
                String before = (church ? withChurch : without).replaceAll("\nfault .*", "");
                CHECKS.isTrue("'" + text + "' leaves all else", after.equals(before));
            }
        }
    }

    /** What only asks changes nothing either. */
    private static void asked() {
        LevelSunday x = prepare(true);
        for (int year : new int[] {0, 2, 30}) {
            long sum = x.high(0, year) + x.spread(-1, year) + x.level(year) + x.first(year) + x.out(year, 0)
                    + x.above(0, year) + x.saws(year) + x.saw(year, 0) + x.ways(year) + x.ever(year)
                    + x.sawn(year, 1) + x.lasts() + x.clash(year) + x.shuts(year) + x.books(year) + x.given(year, 0)
                    + x.gifts(year) + x.hats(year) + x.handed(year, 1) + x.rings(year, 0) + x.bare() + x.kinds(year)
                    + x.wide(year, 1) + x.away(year) + x.stay(year) + x.stilts(1, year) + x.lengths(2, year)
                    + x.hump(0, year, 0) + x.seat(3, year) + x.seat(0, year) + x.pair(year) + x.digs(1, year)
                    + x.least(year, 0) + x.least(year, 1) + x.seen(0, year) + x.sure(0, year, 0) + x.sure(0, year, 1)
                    + x.odd(0, year) + x.drawn(7) + x.grown(7, 0, year) + x.years(7, 3, year);
            CHECKS.isTrue("all of them can be asked in year " + year, sum > 0);
        }
        CHECKS.isTrue("what only asks leaves all as it was", dump(x).equals(withChurch));
    }
}
