import com.sun.management.ThreadMXBean;
import java.lang.management.ManagementFactory;

/** All calls of a run live in one room, so what is needed is made with the object, and no call makes more. */
public final class RoomTest {
    private static final String TEXT = "church pews 4 places 5 level 9 by all; pew 0 up 6 saws 9; pew 1 down 2 saws 9;"
            + "trench 1 2 4;" + "person tall 170 grows 1 heel 1; hat 3;".repeat(8) + "book 2;".repeat(5)
            + "sits 0 0 0; sits 1 0 1; sits 2 0 2; sits 3 1 1; sits 4 1 3; wears 1 0; stands 2 4;";
    /** An object has some thousands of numbers, of eight bytes at most. */
    private static final long MOST_BYTES_OF_ONE = 20_000;

    private static final ThreadMXBean THREADS = (ThreadMXBean) ManagementFactory.getThreadMXBean();

    public static void main(String[] args) {
        Checks checks = new Checks("RoomTest");
        checks.isTrue("what is made can be told", THREADS.isThreadAllocatedMemorySupported());
        // The first of all loads the classes.
        LevelSunday x = new LevelSunday();
        long ahead = made();
        x = new LevelSunday();
        long itself = made() - ahead;
        checks.isTrue("an object has " + itself + " bytes", itself > 0 && itself <= MOST_BYTES_OF_ONE);
        long first = all(x);
        int[] words = words();
        ahead = made();
        long again = all(x, words);
        long more = made() - ahead;
        checks.due("bytes that calls make", more, 0);
        checks.isTrue("they answered", first != 0 && again != 0);
        checks.finish();
    }

    private static long made() {
        return THREADS.getCurrentThreadAllocatedBytes();
    }

    private static int[] words() {
        int[] words = new int[(TEXT.length() + 19) / 20 * 5];
        for (int i = 0; i < TEXT.length(); i++) {
            words[i / 4] |= TEXT.charAt(i) << 24 - 8 * (i % 4);
        }
        return words;
    }

    private static long all(LevelSunday x) {
        return all(x, words());
    }

    private static long all(LevelSunday x, int[] words) {
        for (int i = 0; i < words.length; i += 5) {
            x.feed(words[i], words[i + 1], words[i + 2], words[i + 3], words[i + 4]);
        }
        x.end(TEXT.length());
        long sum = x.church() + x.fault(0) + x.fault(1) + x.row(0, 1, 6) + x.row(1, 1, 3) + x.write(0, 2, 180)
                + x.write(0, 4, 1) + x.paste(0, 0, 1, 0, 3) + x.image(0) + x.image(2);
        for (int year = -1; year <= 31; year += 8) {
            sum += asked(x, year);
        }
        sum += x.cut(0, 2) + x.sits(5, 2, 2) + x.change(0, 1) + x.wears(3, 0) + x.stands(1, 4) + x.trench(0, 0, 7)
                + x.law(3) + asked(x, 4) + x.back(0) + x.back(1);
        // A text with a fault, and none.
        x.feed(words[0], words[1], words[2], words[3], words[4]);
        return sum + x.church() + x.church() + asked(x, 0) + x.back(2);
    }

    private static long asked(LevelSunday x, int year) {
        long sum = 0;
        for (int i = -1; i <= 12; i++) {
            sum += x.pew(0, i) + x.floor(i, 1) + x.who(i, 1) + x.person(1, i) + x.thing(i, 1) + x.high(i, year)
                    + x.spread(i, year) + x.out(year, i) + x.above(i, year) + x.saw(year, i) + x.sawn(year, i)
                    + x.given(year, i) + x.handed(year, i) + x.rings(year, i) + x.wide(year, i) + x.stilts(i, year)
                    + x.lengths(i, year) + x.hump(0, year, i) + x.seat(i, year) + x.digs(i, year) + x.least(year, i)
                    + x.seen(i, year) + x.sure(0, year, i) + x.odd(i, year) + x.grown(7, i, year) + x.count(i);
        }
        return sum + x.level(year) + x.first(year) + x.saws(year) + x.ways(year) + x.ever(year) + x.lasts()
                + x.clash(year) + x.shuts(year) + x.books(year) + x.gifts(year) + x.hats(year) + x.bare()
                + x.kinds(year) + x.away(year) + x.stay(year) + x.pair(year) + x.drawn(7) + x.years(7, 20, year);
    }
}
