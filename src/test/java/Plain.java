import java.util.ArrayList;
import java.util.Arrays;
import java.util.List;
import java.util.Random;

/** A church told and asked in the plainest way: everything is tried. */
final class Plain {
    int pews;
    int places;
    int level;
    boolean byAll;
    int[] up;
    int[] saws;
    int[] sawn;
    int[][] trench;
    int people;
    int[] tall = new int[8];
    int[] grows = new int[8];
    int[] heel = new int[8];
    int[] pew = new int[8];
    int[] place = new int[8];
    int[] hat = new int[8];
    int[] hatHigh;
    int[] bookHigh;
    int[] owner;

    /** A church by chance; the nearer its people are, the more of it is level. */
    static Plain any(Random chance) {
        Plain c = new Plain();
        boolean dense = chance.nextInt(3) == 0;
        c.pews = 1 + chance.nextInt(dense ? 2 : 4);
        c.places = dense ? 5 : 1 + chance.nextInt(5);
        c.level = chance.nextInt(4) == 0 ? chance.nextInt(31) : chance.nextInt(9);
        c.byAll = chance.nextInt(3) > 0;
        c.up = new int[c.pews];
        c.saws = new int[c.pews];
        c.sawn = new int[c.pews];
        c.trench = new int[c.pews][c.places];
        int far = 1 + chance.nextInt(12);
        for (int p = 0; p < c.pews; p++) {
            c.up[p] = chance.nextInt(far) - far / 2;
            c.saws[p] = chance.nextInt(2 + chance.nextInt(9));
            for (int i = 0; i < c.places; i++) {
                c.trench[p][i] = chance.nextInt(3) == 0 ? 1 + chance.nextInt(far) : 0;
            }
        }
        c.people = dense ? 4 + chance.nextInt(5) : chance.nextInt(9);
        for (int p = 0; p < c.people; p++) {
            c.tall[p] = 160 + chance.nextInt(far);
            c.grows[p] = chance.nextInt(1 + chance.nextInt(3));
            c.heel[p] = chance.nextInt(Math.min(10, far));
            c.pew[p] = -1;
            c.place[p] = -1;
            c.hat[p] = -1;
            int atPew = dense ? p / 5 : chance.nextInt(c.pews);
            int atPlace = dense ? p % 5 : chance.nextInt(c.places);
            atPew = Math.min(atPew, c.pews - 1);
            if (c.who(atPew, atPlace) == -1) {
                c.pew[p] = atPew;
                c.place[p] = atPlace;
            }
        }
        c.hatHigh = new int[dense ? 4 + chance.nextInt(5) : chance.nextInt(9)];
        for (int h = 0; h < c.hatHigh.length; h++) {
            c.hatHigh[h] = chance.nextInt(far);
            int p = dense ? c.people - 1 - h : chance.nextInt(8);
            if (p >= 0 && p < c.people && c.hat[p] == -1) {
                c.hat[p] = h;
            }
        }
        c.bookHigh = new int[chance.nextInt(chance.nextInt(8) == 0 ? 6 : 4)];
        c.owner = new int[c.bookHigh.length];
        for (int b = 0; b < c.bookHigh.length; b++) {
            c.bookHigh[b] = 1 + chance.nextInt(far);
            int p = chance.nextInt(9);
            c.owner[b] = p < c.people ? p : -1;
        }
        return c;
    }

    /** One in which there is something to saw, and more in later years. */
    static Plain steep(Random chance) {
        Plain c = any(chance);
        c.pews = 2 + chance.nextInt(2);
        c.places = 3;
        c.level = 1 + chance.nextInt(6);
        c.byAll = true;
        c.people = 3 + chance.nextInt(4);
        c.up = new int[c.pews];
        c.saws = new int[c.pews];
        c.sawn = new int[c.pews];
        c.trench = new int[c.pews][c.places];
        for (int p = 0; p < c.pews; p++) {
            c.up[p] = 3 * chance.nextInt(4) - chance.nextInt(3);
            c.saws[p] = (c.pews == 2 ? 2 : 1) + chance.nextInt(c.pews == 2 ? 8 : 5);
        }
        for (int p = 0; p < c.people; p++) {
            c.pew[p] = p % c.pews;
            c.place[p] = p / c.pews;
            c.tall[p] = 170 + chance.nextInt(1 + c.level);
            c.grows[p] = c.pew[p] == 0 ? 1 : chance.nextInt(5) / 4;
            c.heel[p] = 0;
            c.hat[p] = -1;
        }
        Arrays.fill(c.owner, -1);
        return c;
    }

    String text() {
        StringBuilder s = new StringBuilder();
        s.append("church pews " + pews + " places " + places + " level " + level + (byAll ? " by all;" : " by row;"));
        for (int p = 0; p < pews; p++) {
            if (up[p] != 0 || saws[p] != 0) {
                s.append("pew " + p + (up[p] < 0 ? " down " : " up ") + Math.abs(up[p]) + " saws " + saws[p] + ";");
            }
            for (int i = 0; i < places; i++) {
                if (trench[p][i] != 0) {
                    s.append("trench " + p + " " + i + " " + trench[p][i] + ";");
                }
            }
        }
        for (int p = 0; p < people; p++) {
            s.append("person tall " + tall[p] + " grows " + grows[p] + " heel " + heel[p] + ";");
            if (pew[p] >= 0) {
                s.append("sits " + p + " " + pew[p] + " " + place[p] + "\n;");
            }
        }
        for (int h = 0; h < hatHigh.length; h++) {
            s.append("hat " + hatHigh[h] + ";");
        }
        for (int p = 0; p < people; p++) {
            if (hat[p] >= 0) {
                s.append("wears " + p + " " + hat[p] + ";");
            }
        }
        for (int b = 0; b < bookHigh.length; b++) {
            s.append("book " + bookHigh[b] + ";");
            if (owner[b] >= 0) {
                s.append("stands " + owner[b] + " " + b + ";");
            }
        }
        return s.toString();
    }

    Plain copy() {
        Plain c = new Plain();
        c.pews = pews;
        c.places = places;
        c.level = level;
        c.byAll = byAll;
        c.up = up.clone();
        c.saws = saws.clone();
        c.sawn = sawn.clone();
        c.trench = new int[pews][];
        for (int p = 0; p < pews; p++) {
            c.trench[p] = trench[p].clone();
        }
        c.people = people;
        c.tall = tall.clone();
        c.grows = grows.clone();
        c.heel = heel.clone();
        c.pew = pew.clone();
        c.place = place.clone();
        c.hat = hat.clone();
        c.hatHigh = hatHigh.clone();
        c.bookHigh = bookHigh.clone();
        c.owner = owner.clone();
        return c;
    }

    int who(int atPew, int atPlace) {
        for (int p = 0; p < people; p++) {
            if (pew[p] == atPew && place[p] == atPlace) {
                return p;
            }
        }
        return -1;
    }

    int floor(int atPew, int atPlace) {
        return up[atPew] - trench[atPew][atPlace] - sawn[atPew];
    }

    int standing(int p, int year) {
        int sum = tall[p] + year * grows[p] + heel[p];
        if (hat[p] >= 0) {
            sum += hatHigh[hat[p]];
        }
        for (int b = 0; b < owner.length; b++) {
            if (owner[b] == p) {
                sum += bookHigh[b];
            }
        }
        return sum;
    }

    int high(int p, int year) {
        return standing(p, year) + (pew[p] >= 0 ? floor(pew[p], place[p]) : 0);
    }

    int sitters() {
        int set = 0;
        for (int p = 0; p < people; p++) {
            if (pew[p] >= 0) {
                set |= 1 << p;
            }
        }
        return set;
    }

    /** Whether two of a set who must be level with one another are further apart than so many inches. */
    boolean level(int[] high, int set, int inches) {
        for (int a = 0; a < people; a++) {
            for (int b = 0; b < people; b++) {
                boolean both = (set >> a & 1) != 0 && (set >> b & 1) != 0;
                if (both && (byAll || pew[a] == pew[b]) && high[a] - high[b] > inches) {
                    return false;
                }
            }
        }
        return true;
    }

    int[] highs(int year) {
        int[] high = new int[8];
        for (int p = 0; p < people; p++) {
            high[p] = high(p, year);
        }
        return high;
    }

    boolean level(int year) {
        return level(highs(year), sitters(), level);
    }

    int spread(int set, int year) {
        int most = 0;
        for (int a = 0; a < people; a++) {
            for (int b = 0; b < people; b++) {
                if ((set >> a & 1) != 0 && (set >> b & 1) != 0) {
                    most = Math.max(most, high(a, year) - high(b, year));
                }
            }
        }
        return most;
    }

    int pewSet(int atPew) {
        int set = 0;
        for (int p = 0; p < people; p++) {
            if (pew[p] == atPew) {
                set |= 1 << p;
            }
        }
        return set;
    }

    /** All that can be sawn more, the least row first. */
    List<int[]> sawings() {
        List<int[]> all = new ArrayList<>();
        all.add(new int[pews]);
        for (int p = 0; p < pews; p++) {
            List<int[]> next = new ArrayList<>();
            for (int[] row : all) {
                for (int n = 0; n <= saws[p] - sawn[p]; n++) {
                    int[] more = row.clone();
                    more[p] = n;
                    next.add(more);
                }
            }
            all = next;
        }
        return all;
    }

    boolean levelSawn(int[] more, int set, int year, int inches) {
        int[] high = highs(year);
        for (int p = 0; p < people; p++) {
            if (pew[p] >= 0) {
                high[p] -= more[pew[p]];
            }
        }
        return level(high, set, inches);
    }

    static int sum(int[] row) {
        int sum = 0;
        for (int n : row) {
            sum += n;
        }
        return sum;
    }

    int[] leastSawing(int year) {
        int[] best = null;
        for (int[] more : sawings()) {
            if (levelSawn(more, sitters(), year, level) && (best == null || sum(more) < sum(best))) {
                best = more;
            }
        }
        return best;
    }

    int sawWays(int year) {
        int ways = 0;
        for (int[] more : sawings()) {
            ways += levelSawn(more, sitters(), year, level) ? 1 : 0;
        }
        return ways;
    }

    /** In the end, by all plans: from each row that could stand, every one that has as much or more. */
    int[] leastForYears(int n) {
        List<int[]> all = sawings();
        boolean[] can = new boolean[all.size()];
        for (int i = 0; i < can.length; i++) {
            can[i] = levelSawn(all.get(i), sitters(), 0, level);
        }
        for (int year = 1; year <= n; year++) {
            boolean[] next = new boolean[all.size()];
            for (int i = 0; i < can.length; i++) {
                if (levelSawn(all.get(i), sitters(), year, level)) {
                    for (int j = 0; j < can.length && !next[i]; j++) {
                        next[i] = can[j] && noMore(all.get(j), all.get(i));
                    }
                }
            }
            can = next;
        }
        int[] best = null;
        for (int i = 0; i < can.length; i++) {
            if (can[i] && (best == null || sum(all.get(i)) < sum(best))) {
                best = all.get(i);
            }
        }
        return best;
    }

    private static boolean noMore(int[] a, int[] b) {
        for (int p = 0; p < a.length; p++) {
            if (a[p] > b[p]) {
                return false;
            }
        }
        return true;
    }

    boolean canSaw(int set, int year, int inches) {
        for (int[] more : sawings()) {
            if (levelSawn(more, set, year, inches)) {
                return true;
            }
        }
        return false;
    }

    int clashSet(int year) {
        for (int many = 1; many <= 8; many++) {
            for (int set = 0; set < 256; set++) {
                if (Integer.bitCount(set) == many && (set & ~sitters()) == 0 && !canSaw(set, year, level)) {
                    return set;
                }
            }
        }
        return -1;
    }

    int awaySet(int year) {
        for (int many = 0; many <= 8; many++) {
            for (int set = 0; set < 256; set++) {
                if (Integer.bitCount(set) == many && (set & ~sitters()) == 0
                        && level(highs(year), sitters() & ~set, level)) {
                    return set;
                }
            }
        }
        throw new IllegalStateException("nobody is always level");
    }

    /** Every giving of books by which it is level: rows of owners, the least first. */
    List<int[]> gifts(int year) {
        List<int[]> all = new ArrayList<>();
        int[] row = new int[owner.length];
        Plain c = copy();
        giftsFrom(c, row, 0, year, all);
        return all;
    }

    private void giftsFrom(Plain c, int[] row, int book, int year, List<int[]> all) {
        if (book == row.length) {
            c.owner = row;
            if (c.level(year)) {
                all.add(row.clone());
            }
            return;
        }
        for (int p = -1; p < people; p++) {
            if (p == -1 || pew[p] >= 0) {
                row[book] = p;
                giftsFrom(c, row, book + 1, year, all);
            }
        }
    }

    static int[] fewest(List<int[]> gifts) {
        int[] best = null;
        for (int[] row : gifts) {
            if (best == null || given(row) < given(best)) {
                best = row;
            }
        }
        return best;
    }

    static int given(int[] row) {
        int many = 0;
        for (int p : row) {
            many += p >= 0 ? 1 : 0;
        }
        return many;
    }

    /** In how many ways hats can be handed; the first is put into a row. */
    int hatWays(int year, int[] first) {
        Plain c = copy();
        for (int p = 0; p < people; p++) {
            c.hat[p] = -1;
        }
        return hatWaysFrom(c, 0, year, first, 0);
    }

    private int hatWaysFrom(Plain c, int p, int year, int[] first, int found) {
        if (p == people) {
            if (!c.level(year)) {
                return 0;
            }
            if (found == 0) {
                System.arraycopy(c.hat, 0, first, 0, 8);
            }
            return 1;
        }
        if (pew[p] < 0) {
            return hatWaysFrom(c, p + 1, year, first, found);
        }
        int ways = 0;
        for (int h = 0; h < hatHigh.length; h++) {
            boolean free = true;
            for (int q = 0; q < p; q++) {
                free &= c.hat[q] != h;
            }
            if (free) {
                c.hat[p] = h;
                ways += hatWaysFrom(c, p + 1, year, first, found + ways);
                c.hat[p] = -1;
            }
        }
        return ways;
    }

    /** Lengths of the rings from what is worn to a first row. */
    List<Integer> rings(int[] first) {
        List<Integer> lengths = new ArrayList<>();
        boolean[] looked = new boolean[8];
        for (int start = 0; start < people; start++) {
            List<Integer> chain = new ArrayList<>();
            int p = start;
            while (p >= 0 && !chain.contains(p) && !looked[p] && pew[p] >= 0 && hat[p] >= 0) {
                chain.add(p);
                int next = -1;
                for (int q = 0; q < people; q++) {
                    if (pew[q] >= 0 && hat[q] >= 0 && first[q] == hat[p]) {
                        next = q;
                    }
                }
                p = next;
            }
            if (p == start && chain.size() > 1) {
                lengths.add(chain.size());
                for (int q : chain) {
                    looked[q] = true;
                }
            }
        }
        return lengths;
    }

    /** Over all ways to split off a group from a set. */
    int kinds(int year, int inches) {
        int all = sitters();
        int[] fewest = new int[256];
        for (int set = 1; set < 256; set++) {
            fewest[set] = 99;
            for (int group = set; group > 0; group = group - 1 & set) {
                if (Integer.bitCount(group) <= places && near(group, year, inches)) {
                    fewest[set] = Math.min(fewest[set], 1 + fewest[set & ~group]);
                }
            }
        }
        return fewest[all];
    }

    private boolean near(int group, int year, int inches) {
        for (int a = 0; a < people; a++) {
            for (int b = 0; b < people; b++) {
                boolean both = (group >> a & 1) != 0 && (group >> b & 1) != 0;
                if (both && standing(a, year) - standing(b, year) > inches) {
                    return false;
                }
            }
        }
        return group < 1 << people;
    }

    /** All ways in which people can have been at places of a row of threes; each way a row of people. */
    List<int[]> seen(long[] row, int year) {
        List<int[]> all = new ArrayList<>();
        seenFrom(row, year, new int[row.length / 3], 0, all);
        return all;
    }

    private void seenFrom(long[] row, int year, int[] way, int i, List<int[]> all) {
        if (i == way.length) {
            all.add(way.clone());
            return;
        }
        for (int p = 0; p < people; p++) {
            boolean free = true;
            for (int j = 0; j < i; j++) {
                free &= way[j] != p;
            }
            if (free && standing(p, year) + floor((int) row[3 * i], (int) row[3 * i + 1]) == row[3 * i + 2]) {
                way[i] = p;
                seenFrom(row, year, way, i + 1, all);
            }
        }
    }

    /** How high all are in each year by draws from a seed. */
    int[][] drawn(long seed) {
        int[][] high = new int[31][];
        high[0] = highs(0);
        java.math.BigInteger x = java.math.BigInteger.valueOf(seed);
        for (int year = 1; year <= 30; year++) {
            high[year] = high[year - 1].clone();
            for (int p = 0; p < people; p++) {
                x = x.multiply(java.math.BigInteger.valueOf(1103515245)).add(java.math.BigInteger.valueOf(12345))
                        .mod(java.math.BigInteger.valueOf(2147483648L));
                high[year][p] += x.intValue() / 65536 % 10;
            }
        }
        return high;
    }
}
