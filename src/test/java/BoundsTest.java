import java.util.ArrayList;
import java.util.List;

/** What the text of a church may say: the last that is taken and the first that is not, and where the fault is. */
public final class BoundsTest {
    private static final String SMALL = "church pews 1 places 1 level 0 by row;";
    private static final String LARGE = "church pews 4 places 5 level 30 by all;";
    private static final String MAN = "person tall 100 grows 0 heel 0;";
    private static final String[] LINES = {
        "pew 0 up 1 saws 1 ;", "pew 0 down 1 saws 1 ;", "trench 0 0 1 ;", "person tall 100 grows 0 heel 0 ;",
        "sits 1 0 0 ;", "hat 1 ;", "wears 1 0 ;", "book 1 ;", "stands 1 0 ;"};

    private static final Checks CHECKS = new Checks("BoundsTest");

    public static void main(String[] args) {
        feed();
        end();
        church();
        faultOfTheLatest();
        headNumbers();
        pewLines();
        trenchLines();
        personLines();
        sitsLines();
        hatLines();
        bookLines();
        toldAhead();
        tooMany();
        numberedAsTheyStand();
        tokens();
        bytes();
        longNumbers();
        misplaced();
        spelt();
        endings();
        firstByPlace();
        fullTape();
        CHECKS.finish();
    }

    private static void due(String call, long got, long want) {
        CHECKS.due(call, got, want);
    }

    /** The text has a fault just where the sign ^ stands, which isn't told. */
    private static void fault(int which, String marked) {
        int place = marked.indexOf('^');
        String text = marked.replace("^", "");
        LevelSunday x = new LevelSunday();
        due("'" + marked + "' church()", Checks.read(x, text), -4);
        due("'" + marked + "' fault(0)", x.fault(0), which);
        due("'" + marked + "' fault(1)", x.fault(1), place);
        due("'" + marked + "' count(8)", x.count(8), 0);
        due("'" + marked + "' count(9)", x.count(9), 0);
    }

    private static LevelSunday taken(int lines, String text) {
        LevelSunday x = new LevelSunday();
        due("'" + text + "' church()", Checks.read(x, text), lines);
        due("'" + text + "' fault(0)", x.fault(0), 0);
        due("'" + text + "' fault(1)", x.fault(1), -1);
        due("'" + text + "' count(8)", x.count(8), lines);
        due("'" + text + "' count(9)", x.count(9), 0);
        return x;
    }

    private static void feed() {
        LevelSunday x = new LevelSunday();
        // "church pews 1 places" and " 1 level 0 by row;;;": each number's highest byte comes first.
        due("feed 1", x.feed(0x63687572, 0x63682070, 0x65777320, 0x3120706c, 0x61636573), 20);
        due("feed 2", x.feed(0x2031206c, 0x6576656c, 0x20302062, 0x7920726f, 0x773b3b3b), 40);
        due("read", x.church(), -4);
        due("the second sign is the fault", x.fault(1), 38);
        for (int n = 1; n <= 70; n++) {
            due("feed " + n, x.feed(n, n, n, n, n), 20 * n);
        }
        due("feed 71", x.feed(1, 1, 1, 1, 1), -1);
        due("count(9) of a full tape", x.count(9), 1400);
        due("end(1400)", x.end(1400), 1400);
        due("end(1399)", x.end(1399), 1399);
        due("feed at 1399", x.feed(1, 1, 1, 1, 1), -1);
        due("count(9) at 1399", x.count(9), 1399);
        due("end(1381)", x.end(1381), 1381);
        due("feed at 1381", x.feed(1, 1, 1, 1, 1), -1);
        due("count(9) at 1381", x.count(9), 1381);
        due("end(1380)", x.end(1380), 1380);
        due("feed at 1380", x.feed(1, 1, 1, 1, 1), 1400);
        due("end(0)", x.end(0), 0);
        due("feed at 0", x.feed(-1, -1, -1, -1, -1), 20);
    }

    private static void end() {
        LevelSunday x = new LevelSunday();
        due("end(0) of an empty tape", x.end(0), 0);
        due("end(1) of an empty tape", x.end(1), -1);
        due("end(-1) of an empty tape", x.end(-1), -1);
        x.feed(0, 0, 0, 0, 0);
        due("end(21) of twenty", x.end(21), -1);
        due("end(-1) of twenty", x.end(-1), -1);
        due("end(MIN)", x.end(Integer.MIN_VALUE), -1);
        due("end(MAX)", x.end(Integer.MAX_VALUE), -1);
        due("nothing happened", x.count(9), 20);
        due("end(20) of twenty", x.end(20), 20);
        due("end(19) of twenty", x.end(19), 19);
        due("end(20) of nineteen", x.end(20), -1);
        due("nothing happened", x.count(9), 19);
        x.end(0);
        // What comes next comes behind the first bytes alone: "church pews 1 places" cut to "church " and more.
        x.feed(0x63687572, 0x63682070, 0x65777320, 0x3120706c, 0x61636573);
        due("end(7)", x.end(7), 7);
        due("feed behind", x.feed(0x70657773, 0x2034206c, 0x2020203b, 0x20202020, 0x20202020), 27);
        due("church", x.church(), -4);
        due("l at the fourteenth", x.fault(1), 14);
    }

    private static void church() {
        LevelSunday x = taken(1, SMALL);
        due("one line alone", x.level(0), 1);
        due("an empty tape", x.church(), 0);
        due("there is none then", x.level(0), -2);
        due("no pews then", x.count(0), 0);
        LevelSunday y = taken(9, LARGE + "pew 0 up 9 saws 9; trench 0 0 7;" + MAN + "sits 0 0 0; hat 5; wears 0 0;"
                + "book 6; stands 0 0;");
        y.cut(0, 9);
        due("another", Checks.read(y, "church pews 1 places 1 level 3 by row; pew 0 up 1 saws 2;" + MAN + "hat 8;"), 4);
        int[] counts = {1, 1, 3, 0, 1, 0, 1, 0, 4, 0, 0, 0};
        for (int what = 0; what < counts.length; what++) {
            due("in place of another count(" + what + ")", y.count(what), counts[what]);
        }
        due("no trench", y.floor(0, 0), 1);
        due("nothing is sawn", y.pew(0, 2), 0);
        due("nobody sits", y.who(0, 0), -1);
        due("none worn", y.person(0, 5), -1);
        due("no book", y.person(0, 6), 0);
        due("hat", y.thing(0, 0), 8);
        y.cut(0, 2);
        due("blanks alone", Checks.read(y, "   \n\n "), 0);
        for (int what = 0; what <= 11; what++) {
            due("none count(" + what + ")", y.count(what), 0);
        }
    }

    private static void faultOfTheLatest() {
        LevelSunday x = new LevelSunday();
        due("ahead of any fault(0)", x.fault(0), 0);
        due("ahead of any fault(1)", x.fault(1), -1);
        due("ahead of any fault(2)", x.fault(2), -1);
        due("ahead of any fault(-1)", x.fault(-1), -1);
        due("a fault", Checks.read(x, SMALL + "hat 31;"), -4);
        due("fault(0)", x.fault(0), 2);
        due("fault(1)", x.fault(1), SMALL.length() + 4);
        due("fault(2)", x.fault(2), -1);
        due("fault(-1)", x.fault(-1), -1);
        due("another fault", Checks.read(x, "hat"), -4);
        due("fault(0)", x.fault(0), 1);
        due("fault(1)", x.fault(1), 0);
        due("without", Checks.read(x, SMALL), 1);
        due("fault(0)", x.fault(0), 0);
        due("fault(1)", x.fault(1), -1);
        due("fault(2)", x.fault(2), -1);
        due("a third", Checks.read(x, SMALL + "book 1;".repeat(6)), -4);
        due("fault(0)", x.fault(0), 3);
        due("none then", x.church(), 0);
        due("fault(0)", x.fault(0), 0);
        due("fault(1)", x.fault(1), -1);
    }

    private static void headNumbers() {
        for (int n = 0; n <= 6; n++) {
            if (n < 1 || n > 4) {
                fault(2, "church pews ^" + n + " places 1 level 0 by row;");
            } else {
                due("pews", taken(1, "church pews " + n + " places 1 level 0 by row;").count(0), n);
            }
            if (n < 1 || n > 5) {
                fault(2, "church pews 1 places ^" + n + " level 0 by row;");
            } else {
                due("places", taken(1, "church pews 1 places " + n + " level 0 by row;").count(1), n);
            }
        }
        due("level 0", taken(1, SMALL).count(2), 0);
        due("level 30", taken(1, LARGE).count(2), 30);
        fault(2, "church pews 1 places 1 level ^31 by row;");
        due("by row", taken(1, SMALL).count(3), 0);
        due("by all", taken(1, LARGE).count(3), 1);
        fault(1, "church pews 1 places 1 level 0 by ^rows;");
        fault(1, "church pews 1 places 1 level 0 by ^al;");
        fault(1, "church pews 1 places 1 level 0 by ^;");
    }

    private static void pewLines() {
        due("up 0", taken(2, SMALL + "pew 0 up 0 saws 9;").pew(0, 0), 0);
        due("up 40", taken(2, SMALL + "pew 0 up 40 saws 0;").pew(0, 0), 40);
        due("down 0", taken(2, SMALL + "pew 0 down 0 saws 9;").pew(0, 0), 0);
        due("down 40", taken(2, SMALL + "pew 0 down 40 saws 9;").pew(0, 0), -40);
        due("saws 0", taken(2, SMALL + "pew 0 up 1 saws 0;").pew(0, 1), 0);
        due("saws 9", taken(2, SMALL + "pew 0 up 1 saws 9;").pew(0, 1), 9);
        fault(2, SMALL + "pew 0 up ^41 saws 0;");
        fault(2, SMALL + "pew 0 down ^41 saws 0;");
        fault(2, SMALL + "pew 0 up 40 saws ^10;");
        fault(2, SMALL + "pew 0 down 40 saws ^10;");
        due("the last pew", taken(2, LARGE + "pew 3 up 7 saws 0;").pew(3, 0), 7);
        fault(2, LARGE + "pew ^4 up 7 saws 0;");
        fault(2, SMALL + "pew ^1 up 7 saws 0;");
        LevelSunday x = taken(4, LARGE + "pew 1 up 40 saws 9; pew 2 up 3 saws 3; pew 1 down 5 saws 2;");
        due("a later line strikes", x.pew(1, 0), -5);
        due("also saws", x.pew(1, 1), 2);
        due("of that pew alone", x.pew(2, 0), 3);
        due("of that pew alone", x.pew(2, 1), 3);
        due("up 0 without", x.pew(0, 0), 0);
        due("saws 0 without", x.pew(3, 1), 0);
        LevelSunday y = taken(3, SMALL + "pew 0 up 40 saws 9; pew 0 up 0 saws 0;");
        due("a later up 0 strikes", y.pew(0, 0), 0);
        due("a later saws 0 strikes", y.pew(0, 1), 0);
    }

    private static void trenchLines() {
        due("trench 1", taken(2, SMALL + "trench 0 0 1;").floor(0, 0), -1);
        due("trench 60", taken(2, SMALL + "trench 0 0 60;").floor(0, 0), -60);
        fault(2, SMALL + "trench 0 0 ^0;");
        fault(2, SMALL + "trench 0 0 ^61;");
        due("the last place", taken(2, LARGE + "trench 3 4 5;").floor(3, 4), -5);
        fault(2, LARGE + "trench ^4 4 5;");
        fault(2, LARGE + "trench 3 ^5 5;");
        fault(2, SMALL + "trench ^1 0 5;");
        fault(2, SMALL + "trench 0 ^1 5;");
        LevelSunday x = taken(4, LARGE + "trench 1 1 60; trench 1 2 8; trench 1 1 2;");
        due("a later one strikes", x.floor(1, 1), -2);
        due("at that place alone", x.floor(1, 2), -8);
        due("none without", x.floor(1, 3), 0);
        due("told ahead of its pew", taken(3, LARGE + "trench 1 1 4; pew 1 up 9 saws 0;").floor(1, 1), 5);
    }

    private static void personLines() {
        LevelSunday x = taken(3, SMALL + "person tall 100 grows 0 heel 0; person tall 220 grows 9 heel 9;");
        int[] low = {100, 0, 0, -1, -1, -1, 0};
        int[] top = {220, 9, 9, -1, -1, -1, 0};
        for (int what = 0; what < low.length; what++) {
            due("the least person(0, " + what + ")", x.person(0, what), low[what]);
            due("the most person(1, " + what + ")", x.person(1, what), top[what]);
        }
        fault(2, SMALL + "person tall ^99 grows 0 heel 0;");
        fault(2, SMALL + "person tall ^221 grows 0 heel 0;");
        fault(2, SMALL + "person tall ^0 grows 0 heel 0;");
        fault(2, SMALL + "person tall 220 grows ^10 heel 0;");
        fault(2, SMALL + "person tall 220 grows 9 heel ^10;");
    }

    private static void sitsLines() {
        LevelSunday x = taken(5, LARGE + MAN + MAN + "sits 1 3 4; sits 0 0 0;");
        due("the last place", x.who(3, 4), 1);
        due("the first place", x.who(0, 0), 0);
        fault(2, LARGE + MAN + "sits ^1 0 0;");
        fault(2, LARGE + MAN + "sits 0 ^4 0;");
        fault(2, LARGE + MAN + "sits 0 0 ^5;");
        fault(2, SMALL + MAN + "sits 0 ^1 0;");
        fault(2, SMALL + MAN + "sits 0 0 ^1;");
        fault(2, LARGE + "sits ^0 0 0;" + MAN);
        fault(2, LARGE + MAN + MAN + "sits 0 2 3; sits 1 2 ^3;");
        fault(2, LARGE + MAN + "sits 0 2 3; sits ^0 2 4;");
        fault(2, LARGE + MAN + "sits 0 2 3; sits ^0 2 3;");
        fault(2, LARGE + MAN + "sits 0 2 3; sits ^0 ;");
        taken(5, LARGE + MAN + MAN + "sits 0 2 3; sits 1 3 3;");
        taken(5, LARGE + MAN + MAN + "sits 0 2 3; sits 1 2 2;");
    }

    private static void hatLines() {
        LevelSunday x = taken(3, SMALL + "hat 0; hat 30;");
        due("hat 0", x.thing(0, 0), 0);
        due("hat 30", x.thing(0, 1), 30);
        fault(2, SMALL + "hat ^31;");
        LevelSunday y = taken(7, SMALL + MAN + MAN + "hat 1; hat 2; wears 0 1; wears 1 0;");
        due("wears 0 1", y.person(0, 5), 1);
        due("wears 1 0", y.person(1, 5), 0);
        fault(2, SMALL + MAN + "hat 1; wears ^1 0;");
        fault(2, SMALL + MAN + "hat 1; wears 0 ^1;");
        fault(2, SMALL + MAN + "wears 0 ^0; hat 1;");
        fault(2, SMALL + "hat 1; wears ^0 0;" + MAN);
        fault(2, SMALL + MAN + "hat 1; hat 2; wears 0 0; wears ^0 1;");
        fault(2, SMALL + MAN + "hat 1; wears 0 0; wears ^0 0;");
        fault(2, SMALL + MAN + MAN + "hat 1; wears 0 0; wears 1 ^0;");
        fault(2, SMALL + MAN + "hat 1; wears 0 0; wears ^0 ;");
    }

    private static void bookLines() {
        LevelSunday x = taken(3, SMALL + "book 1; book 30;");
        due("book 1", x.thing(1, 0), 1);
        due("book 30", x.thing(1, 1), 30);
        fault(2, SMALL + "book ^0;");
        fault(2, SMALL + "book ^31;");
        LevelSunday y = taken(6, SMALL + MAN + "book 1; book 2; stands 0 1; stands 0 0;");
        due("on two books", y.person(0, 6), 3);
        fault(2, SMALL + MAN + "book 1; stands ^1 0;");
        fault(2, SMALL + MAN + "book 1; stands 0 ^1;");
        fault(2, SMALL + MAN + "stands 0 ^0; book 1;");
        fault(2, SMALL + "book 1; stands ^0 0;" + MAN);
        fault(2, SMALL + MAN + "book 1; stands 0 0; stands 0 ^0;");
        fault(2, SMALL + MAN + MAN + "book 1; stands 0 0; stands 1 ^0;");
    }

    /** A number is one told ahead, be it told later or not. */
    private static void toldAhead() {
        String eight = MAN.repeat(8) + "hat 1;".repeat(8) + "book 1;".repeat(5);
        LevelSunday x = taken(25, LARGE + eight + "sits 7 0 0; wears 7 7; stands 7 4;");
        due("the last sits", x.who(0, 0), 7);
        due("the last hat", x.person(7, 5), 7);
        due("the last book", x.person(7, 6), 16);
        fault(2, LARGE + eight + "sits ^8 0 0;");
        fault(2, LARGE + eight + "wears ^8 0;");
        fault(2, LARGE + eight + "wears 0 ^8;");
        fault(2, LARGE + eight + "stands ^8 0;");
        fault(2, LARGE + eight + "stands 0 ^5;");
    }

    private static void tooMany() {
        fault(3, SMALL + MAN.repeat(8) + "^" + MAN);
        fault(3, SMALL + "hat 0;".repeat(8) + "^hat 0;");
        fault(3, SMALL + "book 1;".repeat(5) + "^book 1;");
        // At its word, whatever stands behind it.
        fault(3, SMALL + MAN.repeat(8) + "^person");
        fault(3, SMALL + MAN.repeat(8) + "^person tall 9;");
        fault(3, SMALL + "hat 0;".repeat(8) + "^hat 31;");
        fault(3, SMALL + "hat 0;".repeat(8) + "^hat");
        fault(3, SMALL + "book 1;".repeat(5) + "^book?");
        // What is ahead of it is the first.
        fault(2, SMALL + "hat 0;".repeat(7) + "hat ^31; hat 0; hat 0;");
        fault(1, SMALL + "hat 0;".repeat(8) + "^;hat 0;");
        fault(1, SMALL + "hat 0;".repeat(8) + "^hats 0;");
        // Where its word can't stand that is the least of the two.
        fault(1, SMALL + MAN.repeat(8) + "hat ^person tall 100 grows 0 heel 0;");
        fault(1, SMALL + "hat 0;".repeat(8) + "book 1 ^hat 0;");
        fault(1, SMALL + "book 1;".repeat(5) + "pew ^book 1;");
        LevelSunday x = taken(22, SMALL + MAN.repeat(8) + "hat 0;".repeat(8) + "book 1;".repeat(5));
        due("eight people", x.count(4), 8);
        due("eight hats", x.count(6), 8);
        due("five books", x.count(7), 5);
    }

    private static void numberedAsTheyStand() {
        StringBuilder s = new StringBuilder(LARGE);
        for (int i = 0; i < 8; i++) {
            s.append("hat " + (20 + i) + ";person tall " + (150 + i) + " grows 0 heel 0;");
            s.append(i < 5 ? "book " + (10 + i) + ";" : "");
        }
        LevelSunday x = taken(22, s.toString());
        for (int i = 0; i < 8; i++) {
            due("person(" + i + ", 0)", x.person(i, 0), 150 + i);
            due("thing(0, " + i + ")", x.thing(0, i), 20 + i);
            due("thing(1, " + i + ")", x.thing(1, i), i < 5 ? 10 + i : -2);
        }
        due("none ahead of the first", x.person(-1, 0), -2);
        due("none behind the last", x.person(8, 0), -2);
        due("none behind the last hat", x.thing(0, 8), -2);
    }

    private static void tokens() {
        taken(2, "\n\n church\npews 1\n \nplaces 1 level 0 by row\n;\nhat\n3;\n ");
        taken(3, "church pews1places1level0by row;hat3;hat03;");
        fault(1, "^churchpews 1 places 1 level 0 by row;");
        fault(1, "church pews 1 places 1 level 0 ^byrow;");
        fault(1, SMALL + "hat 1 ^2;");
        fault(1, SMALL + "^ha t 1;");
        fault(1, SMALL + "^hathat 1;");
        fault(1, SMALL + "hat 1^a;");
        fault(1, SMALL + "hat ^a1;");
        fault(1, SMALL + "^1hat 1;");
        fault(1, SMALL + "hat ^-1;");
        fault(1, SMALL + "hat ^+1;");
        fault(1, SMALL + "hat 1^.0;");
        fault(1, SMALL + "^Hat 1;");
        fault(1, SMALL + "^h");
        fault(1, SMALL + "^hats 1;");
        fault(1, "^Church pews 1 places 1 level 0 by row;");
        fault(1, "^churc");
    }

    /** Each byte in place of a blank ahead of a number: hat 3. */
    private static void bytes() {
        for (int b = 0; b < 256; b++) {
            String sign = String.valueOf((char) b);
            if (b == 32 || b == 10) {
                due("byte " + b, taken(2, SMALL + "hat" + sign + "3;").thing(0, 0), 3);
            } else if (b >= '0' && b <= '2') {
                due("byte " + b, taken(2, SMALL + "hat" + sign + "3;").thing(0, 0), 10 * (b - '0') + 3);
            } else if (b >= '3' && b <= '9') {
                fault(2, SMALL + "hat^" + sign + "3;");
            } else if (b >= 'a' && b <= 'z') {
                fault(1, SMALL + "^hat" + sign + "3;");
            } else if (b != '^') {
                fault(1, SMALL + "hat^" + sign + "3;");
            }
            if (b == 32 || b == 10) {
                taken(1, SMALL + sign);
            } else if (b != '^') {
                fault(1, SMALL + "^" + sign);
            }
        }
        LevelSunday x = new LevelSunday();
        due("the sign ^ is none", Checks.read(x, SMALL + "hat ^3;"), -4);
        due("its place", x.fault(1), SMALL.length() + 4);
    }

    private static void longNumbers() {
        String zeros = "0".repeat(900);
        due("many zeros", taken(2, SMALL + "hat " + zeros + "7;").thing(0, 0), 7);
        due("zeros alone", taken(2, SMALL + "hat " + zeros + ";").thing(0, 0), 0);
        fault(2, SMALL + "hat ^" + zeros + "31;");
        fault(2, SMALL + "hat ^1" + zeros + ";");
        fault(2, SMALL + "hat ^" + "9".repeat(900) + ";");
        // They would do if they were cut to 32 or 64 bits.
        String[] wrapped = {"2147483648", "4294967296", "4294967297", "4294967299", "9223372036854775808",
            "18446744073709551616", "18446744073709551619", "340282366920938463463374607431768211457"};
        for (String number : wrapped) {
            fault(2, SMALL + "hat ^" + number + ";");
            fault(2, SMALL + "book ^" + number + ";");
            fault(2, SMALL + "pew ^" + number + " up 0 saws 0;");
            fault(2, SMALL + MAN + "sits ^" + number + " 0 0;");
            fault(2, "church pews ^" + number + " places 1 level 0 by row;");
        }
        // A number where none can stand is no matter of bounds.
        fault(1, SMALL + "^99999999999 hat;");
    }

    /** Each token of each line in place of another sort; a line cut behind each of its tokens. */
    private static void misplaced() {
        String before = SMALL + MAN + MAN + "hat 1; book 1;";
        List<String[]> lines = new ArrayList<>();
        for (String line : LINES) {
            taken(before.split(";").length + 1, before + line);
            lines.add(line.split(" "));
        }
        for (String[] line : lines) {
            for (int k = 0; k < line.length; k++) {
                if (k > 0) {
                    fault(1, before + joined(line, k) + "^");
                }
                fault(1, before + joined(line, k) + "^x");
                fault(1, before + joined(line, k) + "^church");
                if (!line[k].equals(";")) {
                    fault(1, before + joined(line, k) + "^;");
                }
                if (!line[k].matches("[0-9]+")) {
                    fault(1, before + joined(line, k) + "^1");
                }
            }
        }
        String[] head = "church pews 1 places 1 level 0 by row ;".split(" ");
        for (int k = 1; k < head.length; k++) {
            fault(1, joined(head, k) + "^");
            fault(1, joined(head, k) + "^church");
            fault(1, joined(head, k) + (head[k].equals(";") ? "^1" : "^;"));
            fault(1, joined(head, k) + (head[k].matches("[0-9]") ? "^row" : "^2"));
        }
        for (String line : LINES) {
            fault(1, "^" + line);
            fault(1, "^" + line + SMALL);
        }
        fault(1, SMALL + "^" + SMALL);
        fault(1, SMALL + "hat 1;^church");
    }

    private static String joined(String[] tokens, int many) {
        StringBuilder s = new StringBuilder();
        for (int k = 0; k < many; k++) {
            s.append(tokens[k]).append(' ');
        }
        return s.toString();
    }

    /** A word with one letter other, more or less is none that can stand there. */
    private static void spelt() {
        spelt(LARGE + MAN + String.join("", LINES));
        spelt(SMALL);
    }

    private static void spelt(String text) {
        taken(text.split(";").length, text);
        for (int i = 0; i < text.length(); i++) {
            if (!Character.isLetter(text.charAt(i))) {
                continue;
            }
            int from = i;
            while (from > 0 && Character.isLetter(text.charAt(from - 1))) {
                from--;
            }
            String ahead = text.substring(0, from) + "^" + text.substring(from, i);
            String behind = text.substring(i + 1);
            char letter = text.charAt(i);
            char next = letter == 'z' ? 'y' : (char) (letter + 1);
            fault(1, ahead + next + behind);
            fault(1, ahead + behind);
            fault(1, ahead + letter + letter + behind);
            fault(1, ahead + Character.toUpperCase(letter) + behind);
        }
    }

    private static void endings() {
        fault(1, "church pews 1 places 1 level 0 by row^");
        fault(1, "church^");
        fault(1, "church   \n\n  ^");
        fault(1, SMALL + "hat 1^");
        fault(1, SMALL + "hat^");
        // A word, number out of bounds that ends the tape is itself the first.
        fault(2, SMALL + "hat ^31");
        fault(1, SMALL + "^ha");
    }

    private static void firstByPlace() {
        fault(2, SMALL + "hat ^31; Hat 1;");
        fault(1, SMALL + "^Hat 1; hat 31;");
        fault(2, SMALL + "pew ^9 up 99 saws 99");
        fault(2, SMALL + "pew 0 up ^99 saws 99");
        fault(1, SMALL + "pew 0 ^over 99 saws 99");
        fault(2, "church pews ^9 places 9 level 99 by none");
        fault(1, "church ^pew 9");
        fault(2, SMALL + "trench ^1 1 99;");
        fault(2, SMALL + "person tall ^1 grows 99 heel 99");
        fault(1, SMALL + "person tall 100 ^grow 99 heel 99");
    }

    private static void fullTape() {
        String line = "hat 7;";
        String wide = SMALL + " ".repeat(1400 - SMALL.length() - line.length());
        due("fourteen hundred bytes", taken(2, wide + line).thing(0, 0), 7);
        fault(1, wide + "hat 07^");
        fault(1, wide + "   hat^");
        fault(1, wide + "     ^h");
        String trenches = "trench 0 0 1;".repeat((1400 - SMALL.length()) / 13);
        taken(1 + trenches.length() / 13, SMALL + trenches);
        String shortest = "hat0;".repeat(8) + "book1;".repeat(5);
        taken(14, SMALL + shortest);
    }
}
