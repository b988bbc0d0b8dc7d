import java.util.List;
import java.util.Random;

/** Churches by chance, asked and changed, against the plain model that tries everything. */
public final class BruteTest {
    private static final int CHURCHES = 300;

    private static Checks checks;
    private static Random chance;
    private static LevelSunday x;
    private static Plain c;
    private static String told;

    public static void main(String[] args) {
        checks = new Checks("BruteTest");
        for (int n = 0; n < CHURCHES; n++) {
            chance = new Random(n);
            c = n % 3 == 2 ? Plain.steep(chance) : Plain.any(chance);
            told = c.text();
            x = Checks.church(told);
            Plain before = c.copy();
            x.image(1);
            askAll();
            for (int turn = 0; turn < 12; turn++) {
                changeOne();
            }
            askAll();
            x.back(1);
            c = before;
            state();
        }
        checks.finish();
    }

    private static void due(String call, long got, long want) {
        checks.due(told + " .. " + call, got, want);
    }

    private static void askAll() {
        int year = chance.nextInt(3) == 0 ? chance.nextInt(31) : chance.nextInt(4);
        state();
        heights(year);
        sawing(year);
        books(year);
        hats(year);
        others(year);
        seats(year);
        sightings(year);
        draws();
    }

    private static void state() {
        due("count(0)", x.count(0), c.pews);
        due("count(1)", x.count(1), c.places);
        due("count(2)", x.count(2), c.level);
        due("count(3)", x.count(3), c.byAll ? 1 : 0);
        due("count(4)", x.count(4), c.people);
        due("count(5)", x.count(5), c.sitters());
        due("count(6)", x.count(6), c.hatHigh.length);
        due("count(7)", x.count(7), c.bookHigh.length);
        due("count(8)", x.count(8), told.chars().filter(sign -> sign == ';').count());
        due("count(10)", x.count(10), Plain.sum(c.sawn));
        int bare = 0;
        for (int p = 0; p < c.people; p++) {
            due("person 0", x.person(p, 0), c.tall[p]);
            due("person 1", x.person(p, 1), c.grows[p]);
            due("person 2", x.person(p, 2), c.heel[p]);
            due("person 3", x.person(p, 3), c.pew[p]);
            due("person 4", x.person(p, 4), c.place[p]);
            due("person 5", x.person(p, 5), c.hat[p]);
            int set = 0;
            for (int b = 0; b < c.owner.length; b++) {
                set |= c.owner[b] == p ? 1 << b : 0;
            }
            due("person 6", x.person(p, 6), set);
            bare |= c.pew[p] >= 0 && c.hat[p] < 0 ? 1 << p : 0;
        }
        due("bare", x.bare(), bare);
        for (int p = 0; p < c.pews; p++) {
            due("pew 0", x.pew(p, 0), c.up[p]);
            due("pew 1", x.pew(p, 1), c.saws[p]);
            due("pew 2", x.pew(p, 2), c.sawn[p]);
            due("pew 3", x.pew(p, 3), Integer.bitCount(c.pewSet(p)));
            for (int i = 0; i < c.places; i++) {
                due("floor", x.floor(p, i), c.floor(p, i));
                due("who", x.who(p, i), c.who(p, i));
            }
        }
    }

    private static void heights(int year) {
        int tallest = -1;
        int lowest = -1;
        int firstOut = -1;
        for (int y = 30; y >= year; y--) {
            firstOut = c.level(y) ? firstOut : y;
        }
        for (int p = 0; p < c.people; p++) {
            due("high " + p + " " + year, x.high(p, year), c.high(p, year));
            if (c.pew[p] < 0) {
                due("above nowhere", x.above(p, year), -2);
                continue;
            }
            int lower = 0;
            for (int q = 0; q < c.people; q++) {
                lower += c.pew[q] >= 0 && c.high(q, year) < c.high(p, year) ? 1 : 0;
            }
            due("above " + p + " " + year, x.above(p, year), lower);
            tallest = tallest < 0 || c.high(p, year) > c.high(tallest, year) ? p : tallest;
            lowest = lowest < 0 || c.high(p, year) < c.high(lowest, year) ? p : lowest;
        }
        due("out 0 " + year, x.out(year, 0), tallest);
        due("out 1 " + year, x.out(year, 1), lowest);
        due("level " + year, x.level(year), c.level(year) ? 1 : 0);
        due("first " + year, x.first(year), firstOut);
        due("spread -1 " + year, x.spread(-1, year), c.spread(c.sitters(), year));
        for (int p = 0; p < c.pews; p++) {
            due("spread " + p + " " + year, x.spread(p, year), c.spread(c.pewSet(p), year));
            int humps = 0;
            int firstPlace = -1;
            for (int i = c.places - 2; i > 0; i--) {
                int a = c.who(p, i - 1);
                int b = c.who(p, i);
                int d = c.who(p, i + 1);
                if (a >= 0 && b >= 0 && d >= 0 && c.high(b, year) > c.high(a, year) + c.level
                        && c.high(b, year) > c.high(d, year) + c.level) {
                    humps++;
                    firstPlace = i;
                }
            }
            due("hump " + p + " " + year, x.hump(p, year, 0), humps);
            due("hump " + p + " " + year, x.hump(p, year, 1), firstPlace);
        }
    }

    private static void sawing(int year) {
        int[] least = c.leastSawing(year);
        due("saws " + year, x.saws(year), least == null ? -1 : Plain.sum(least));
        due("ways " + year, x.ways(year), c.sawWays(year));
        int clash = c.sawings().size() > 500 ? -9 : c.clashSet(year);
        if (clash != -9) {
            due("shuts " + year, x.shuts(year), clash);
            due("clash " + year, x.clash(year), clash < 0 ? -1 : Integer.bitCount(clash));
        }
        for (int p = 0; p < c.pews; p++) {
            due("saw " + year + " " + p, x.saw(year, p), least == null ? -1 : least[p]);
        }
        int inches = 0;
        while (!c.level(c.highs(year), c.sitters(), inches)) {
            inches++;
        }
        due("least " + year + " 0", x.least(year, 0), inches);
        while (inches > 0 && c.canSaw(c.sitters(), year, inches - 1)) {
            inches--;
        }
        due("least " + year + " 1", x.least(year, 1), inches);
        if (c.sawings().size() <= 300) {
            int lasts = -1;
            for (int n = 0; n <= 30; n += n < 4 ? 1 : 6) {
                int[] end = c.leastForYears(n);
                due("ever " + n, x.ever(n), end == null ? -1 : Plain.sum(end));
                for (int p = 0; p < c.pews; p++) {
                    due("sawn " + n + " " + p, x.sawn(n, p), end == null ? -1 : end[p]);
                }
            }
            for (int n = 0; n <= 30 && c.sawings().size() < 100 && c.leastForYears(n) != null; n++) {
                lasts = n;
            }
            if (c.sawings().size() < 100) {
                due("lasts", x.lasts(), lasts);
            }
        }
    }

    private static void books(int year) {
        if (c.owner.length > 4 && Integer.bitCount(c.sitters()) > 4) {
            return;
        }
        List<int[]> gifts = c.gifts(year);
        int[] fewest = Plain.fewest(gifts);
        due("gifts " + year, x.gifts(year), gifts.size());
        due("books " + year, x.books(year), fewest == null ? -1 : Plain.given(fewest));
        for (int b = 0; b < c.owner.length; b++) {
            due("given " + year + " " + b, x.given(year, b), fewest == null ? -1 : fewest[b]);
        }
    }

    private static void hats(int year) {
        if (Integer.bitCount(c.sitters()) > 6) {
            return;
        }
        int[] first = new int[8];
        int ways = c.hatWays(year, first);
        due("hats " + year, x.hats(year), ways);
        List<Integer> rings = c.rings(first);
        int longest = 0;
        for (int length : rings) {
            longest = Math.max(longest, length);
        }
        due("rings " + year + " 0", x.rings(year, 0), ways == 0 ? -1 : rings.size());
        due("rings " + year + " 1", x.rings(year, 1), ways == 0 ? -1 : longest);
        for (int p = 0; p < c.people; p++) {
            due("handed " + year + " " + p, x.handed(year, p), c.pew[p] < 0 ? -2 : ways == 0 ? -1 : first[p]);
        }
    }

    private static void others(int year) {
        due("kinds " + year, x.kinds(year), c.kinds(year, c.level));
        int[] byInches = new int[80];
        for (int inches = 0; inches < 80; inches++) {
            byInches[inches] = c.kinds(year, inches);
        }
        for (int n = 0; n < 9 && year < 10; n++) {
            int wide = -1;
            for (int inches = 79; inches >= 0; inches--) {
                wide = byInches[inches] <= n ? inches : wide;
            }
            due("wide " + year + " " + n, x.wide(year, n), wide);
        }
        due("stay " + year, x.stay(year), c.awaySet(year));
        due("away " + year, x.away(year), Integer.bitCount(c.awaySet(year)));
        for (int p = 0; p < c.people; p++) {
            int stilts = c.pew[p] < 0 ? -2 : -1;
            int lengths = c.pew[p] < 0 ? -2 : 0;
            int digs = c.pew[p] < 0 ? -2 : -1;
            for (int n = 99; n >= 0 && c.pew[p] >= 0; n--) {
                int[] high = c.highs(year);
                high[p] += n;
                if (c.level(high, c.sitters(), c.level)) {
                    stilts = n;
                    lengths++;
                }
            }
            for (int n = 60; n >= 0 && c.pew[p] >= 0; n--) {
                Plain tried = c.copy();
                tried.trench[c.pew[p]][c.place[p]] = n;
                digs = tried.level(year) ? n : digs;
            }
            due("stilts " + p + " " + year, x.stilts(p, year), stilts);
            due("lengths " + p + " " + year, x.lengths(p, year), lengths);
            due("digs " + p + " " + year, x.digs(p, year), digs);
        }
    }

    private static void seats(int year) {
        for (int p = 0; p < c.people; p++) {
            int seat = -1;
            for (int pew = c.pews - 1; pew >= 0; pew--) {
                for (int place = c.places - 1; place >= 0; place--) {
                    if (c.who(pew, place) < 0) {
                        Plain tried = c.copy();
                        tried.pew[p] = pew;
                        tried.place[p] = place;
                        seat = tried.level(year) ? 100 * pew + place : seat;
                    }
                }
            }
            due("seat " + p + " " + year, x.seat(p, year), seat);
        }
        int best = c.spread(c.sitters(), year);
        int pair = -1;
        for (int a = 0; a < c.people; a++) {
            for (int b = a + 1; b < c.people; b++) {
                if (c.pew[a] >= 0 && c.pew[b] >= 0) {
                    Plain tried = c.copy();
                    tried.pew[a] = c.pew[b];
                    tried.place[a] = c.place[b];
                    tried.pew[b] = c.pew[a];
                    tried.place[b] = c.place[a];
                    int spread = tried.spread(tried.sitters(), year);
                    if (spread < best) {
                        best = spread;
                        pair = 10 * a + b;
                    }
                }
            }
        }
        due("pair " + year, x.pair(year), pair);
    }

    /** Some of the people, put to places by chance, are seen there, one perhaps wrongly. */
    private static void sightings(int year) {
        int many = chance.nextInt(Math.min(c.pews * c.places, 8) + 1);
        long[] row = new long[3 * many];
        boolean[][] told = new boolean[c.pews][c.places];
        for (int i = 0; i < many; i++) {
            int pew;
            int place;
            do {
                pew = chance.nextInt(c.pews);
                place = chance.nextInt(c.places);
            } while (told[pew][place]);
            told[pew][place] = true;
            int p = chance.nextInt(2) == 0 ? c.who(pew, place) : i < c.people ? i : -1;
            row[3 * i] = pew;
            row[3 * i + 1] = place;
            row[3 * i + 2] = p < 0 ? 165 : c.standing(p, year) + c.floor(pew, place);
        }
        x.row(3, 1 + chance.nextInt(3), row.length);
        for (int i = 0; i < row.length; i++) {
            x.write(3, i, row[i]);
        }
        List<int[]> ways = c.seen(row, year);
        due("seen " + year, x.seen(3, year), ways.size());
        int odd = -1;
        for (int i = many - 1; i >= 0; i--) {
            int sure = ways.isEmpty() ? -1 : ways.get(0)[i];
            for (int[] way : ways) {
                sure = way[i] == sure ? sure : -1;
            }
            due("sure " + year + " " + i, x.sure(3, year, i), sure);
            int sitter = c.who((int) row[3 * i], (int) row[3 * i + 1]);
            odd = sitter < 0 || c.high(sitter, year) != row[3 * i + 2] ? i : odd;
        }
        due("odd " + year, x.odd(3, year), odd);
        due("sure beyond", x.sure(3, year, many), -1);
    }

    private static void draws() {
        int seed = chance.nextInt(3) == 0 ? 2_000_000_000 - chance.nextInt(5) : chance.nextInt(2_000_000_001);
        int last = chance.nextInt(31);
        int n = 1 + chance.nextInt(20);
        int many = 0;
        for (int i = 0; i < n; i++) {
            int[][] high = c.drawn((long) seed + i);
            int first = -1;
            for (int year = 30; year >= 0; year--) {
                first = c.level(high[year], c.sitters(), c.level) ? first : year;
            }
            many += first < 0 || first > last ? 1 : 0;
            if (i == 0) {
                due("drawn " + seed, x.drawn(seed), first);
                for (int p = 0; p < c.people; p++) {
                    due("grown " + seed + " " + p + " " + last, x.grown(seed, p, last), high[last][p]);
                }
            }
        }
        due("years " + seed + " " + n + " " + last, x.years(seed, n, last), many);
    }

    private static void changeOne() {
        switch (chance.nextInt(7)) {
            case 0: changeSeat(); break;
            case 1: changePlaces(); break;
            case 2: changeHat(); break;
            case 3: changeBook(); break;
            case 4: changeTrench(); break;
            case 5: changeSaw(); break;
            default:
                int level = chance.nextInt(12);
                due("law", x.law(level), c.level);
                c.level = level;
        }
    }

    private static void changeSeat() {
        int p = chance.nextInt(8);
        int pew = chance.nextInt(c.pews + 2) - 1;
        int place = chance.nextInt(c.places + 1);
        boolean can = p < c.people && (pew == -1 || pew < c.pews && place < c.places && c.who(pew, place) < 0);
        int was = !can ? -2 : c.pew[p] < 0 ? -1 : 100 * c.pew[p] + c.place[p];
        due("sits " + p + " " + pew + " " + place, x.sits(p, pew, place), was);
        if (can) {
            c.pew[p] = pew;
            c.place[p] = pew < 0 ? -1 : place;
        }
    }

    private static void changePlaces() {
        int a = chance.nextInt(8);
        int b = chance.nextInt(8);
        boolean can = a != b && a < c.people && b < c.people && c.pew[a] >= 0 && c.pew[b] >= 0;
        due("change " + a + " " + b, x.change(a, b), can ? 0 : -2);
        if (can) {
            int pew = c.pew[a];
            int place = c.place[a];
            c.pew[a] = c.pew[b];
            c.place[a] = c.place[b];
            c.pew[b] = pew;
            c.place[b] = place;
        }
    }

    private static void changeHat() {
        int p = chance.nextInt(8);
        int hat = chance.nextInt(c.hatHigh.length + 2) - 1;
        boolean can = p < c.people && hat < c.hatHigh.length;
        due("wears " + p + " " + hat, x.wears(p, hat), can ? c.hat[p] : -2);
        if (can) {
            for (int q = 0; q < c.people; q++) {
                c.hat[q] = c.hat[q] == hat ? -1 : c.hat[q];
            }
            c.hat[p] = hat;
        }
    }

    private static void changeBook() {
        int p = chance.nextInt(10) - 1;
        int book = chance.nextInt(c.owner.length + 1);
        boolean can = p < c.people && book < c.owner.length;
        due("stands " + p + " " + book, x.stands(p, book), can ? c.owner[book] : -2);
        if (can) {
            c.owner[book] = p;
        }
    }

    private static void changeTrench() {
        int pew = chance.nextInt(c.pews + 1);
        int place = chance.nextInt(c.places + 1);
        int n = chance.nextInt(10);
        boolean can = pew < c.pews && place < c.places;
        due("trench " + pew + " " + place + " " + n, x.trench(pew, place, n), can ? c.trench[pew][place] : -2);
        if (can) {
            c.trench[pew][place] = n;
        }
    }

    private static void changeSaw() {
        int pew = chance.nextInt(c.pews);
        int n = chance.nextInt(5) - 1;
        boolean can = n >= 0 && c.sawn[pew] + n <= c.saws[pew];
        due("cut " + pew + " " + n, x.cut(pew, n), can ? c.sawn[pew] + n : -2);
        if (can) {
            c.sawn[pew] += n;
        }
    }
}
