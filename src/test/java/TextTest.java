import java.util.ArrayList;
import java.util.HashSet;
import java.util.List;
import java.util.Random;
import java.util.Set;
import java.util.regex.Matcher;
import java.util.regex.Pattern;

/** Texts spoilt by chance: faults and lines against a reader that goes by a table of lines. */
public final class TextTest {
    private static final Pattern TOKEN = Pattern.compile("([ \n]+)|([a-z]+)|([0-9]+)|(;)|([^ ])", Pattern.DOTALL);
    private static final String[] LINES = {
        "church pews 1:4 places 1:5 level 0:30 by row/all ;", "pew P up/down 0:40 saws 0:9 ;", "trench P I 1:60 ;",
        "person tall 100:220 grows 0:9 heel 0:9 ;", "sits A P I ;", "hat 0:30 ;", "wears A H ;", "book 1:30 ;",
        "stands A B ;"};
    private static final String[] PIECES = {"church", "pews", "places", "level", "by", "row", "all", "pew", "up",
        "down", "saws", "trench", "person", "tall", "grows", "heel", "sits", "hat", "wears", "book", "stands", ";",
        "0", "1", "2", "5", "00000000000000000001", "99999999999999999999", "a", "A", "-", "\n", " ", "\t", "\u00e9",
        "\u0000", ".", "4294967296"};

    private int fault;
    private int place = -1;
    private int lines;
    private int pews;
    private int places;
    private int people;
    private int hats;
    private int books;
    private final Set<Integer> seated = new HashSet<>();
    private final Set<Integer> taken = new HashSet<>();
    private final Set<Integer> covered = new HashSet<>();
    private final Set<Integer> worn = new HashSet<>();
    private final Set<Integer> stoodOn = new HashSet<>();

    public static void main(String[] args) {
        Checks checks = new Checks("TextTest");
        int[] seenFaults = new int[4];
        for (int n = 0; n < 20_000; n++) {
            Random chance = new Random(n);
            String text = spoil(Plain.any(chance).text(), chance);
            if (text.length() > 1400) {
                continue;
            }
            TextTest want = new TextTest();
            want.read(text);
            seenFaults[want.fault]++;
            LevelSunday x = new LevelSunday();
            int lines = Checks.read(x, text);
            String told = "'" + text + "' ";
            checks.due(told + "church()", lines, want.fault == 0 ? want.lines : -4);
            checks.due(told + "fault(0)", x.fault(0), want.fault);
            checks.due(told + "fault(1)", x.fault(1), want.place);
            checks.due(told + "count(8)", x.count(8), want.fault == 0 ? want.lines : 0);
            checks.due(told + "count(4)", x.count(4), want.fault == 0 ? want.people : 0);
            checks.due(told + "count(9)", x.count(9), 0);
        }
        for (int fault = 0; fault < 4; fault++) {
            checks.isTrue("fault " + fault + " comes often: " + seenFaults[fault], seenFaults[fault] > 100);
        }
        checks.finish();
    }

    /** Leaves a text as it is, or puts in, takes out or doubles a piece or a line. */
    private static String spoil(String text, Random chance) {
        StringBuilder s = new StringBuilder(text);
        int at = chance.nextInt(s.length() + 1);
        String piece = PIECES[chance.nextInt(PIECES.length)];
        List<String> tokens = new ArrayList<>();
        Matcher m = TOKEN.matcher(text);
        while (m.find()) {
            tokens.add(m.group());
        }
        int token = chance.nextInt(tokens.size());
        switch (chance.nextInt(9)) {
            case 0: break;
            case 1: s.insert(at, piece); break;
            case 2: s.setLength(at); break;
            case 3: tokens.set(token, piece); return String.join("", tokens);
            case 4: tokens.remove(token); return String.join("", tokens);
            case 5: tokens.add(token, tokens.get(chance.nextInt(tokens.size()))); return String.join(" ", tokens);
            case 6: s.append(more(chance)); break;
            case 7: s.append(more(chance)).append(more(chance)); break;
            default: {
                String number = "" + chance.nextInt(chance.nextInt(2) == 0 ? 10 : 240);
                while (!tokens.get(token).matches("[0-9]+")) {
                    token = chance.nextInt(tokens.size());
                }
                tokens.set(token, number);
                return String.join("", tokens);
            }
        }
        return s.toString();
    }

    private static String more(Random chance) {
        switch (chance.nextInt(7)) {
            case 0: return "person tall 170 grows 1 heel 0;".repeat(chance.nextInt(9));
            case 1: return "hat 3;".repeat(chance.nextInt(10));
            case 2: return "book 3;".repeat(chance.nextInt(7));
            case 3: return "sits " + chance.nextInt(8) + " " + chance.nextInt(4) + " " + chance.nextInt(5) + ";";
            case 4: return "wears " + chance.nextInt(8) + " " + chance.nextInt(8) + ";";
            case 5: return "stands " + chance.nextInt(8) + " " + chance.nextInt(5) + ";";
            default: return "trench " + chance.nextInt(4) + " " + chance.nextInt(5) + " " + chance.nextInt(70) + ";";
        }
    }

    private void read(String text) {
        List<String> tokens = new ArrayList<>();
        List<Integer> starts = new ArrayList<>();
        Matcher m = TOKEN.matcher(text);
        while (m.find()) {
            if (m.group(1) == null) {
                tokens.add(m.group());
                starts.add(m.start());
            }
        }
        tokens.add("");
        starts.add(text.length());
        int at = 0;
        while (at < tokens.size() - 1 && fault == 0) {
            at = line(tokens, starts, at);
        }
    }

    private int line(List<String> tokens, List<Integer> starts, int from) {
        String[] parts = null;
        for (int k = 0; k < LINES.length; k++) {
            if (LINES[k].startsWith(tokens.get(from) + " ") && tokens.get(from).matches("[a-z]+")
                    && (k == 0) == (lines == 0)) {
                parts = LINES[k].split(" ");
            }
        }
        if (parts == null) {
            return wrong(1, starts.get(from));
        }
        boolean full = parts[0].equals("person") && people == 8 || parts[0].equals("hat") && hats == 8
                || parts[0].equals("book") && books == 5;
        if (full) {
            return wrong(3, starts.get(from));
        }
        int[] numbers = new int[parts.length];
        for (int k = 1; k < parts.length; k++) {
            String token = tokens.get(from + k);
            int found = part(parts[k], token, parts[0], numbers, k);
            if (found != 0) {
                return wrong(found, starts.get(from + k));
            }
        }
        done(parts[0], numbers);
        lines++;
        return from + parts.length;
    }

    private int part(String part, String token, String line, int[] numbers, int k) {
        boolean isNumber = part.contains(":") || part.matches("[A-Z]");
        if (!isNumber) {
            return List.of(part.split("/")).contains(token) ? 0 : 1;
        }
        if (!token.matches("[0-9]+")) {
            return 1;
        }
        int least = 0;
        int most;
        switch (part) {
            case "P": most = pews - 1; break;
            case "I": most = places - 1; break;
            case "A": most = people - 1; break;
            case "H": most = hats - 1; break;
            case "B": most = books - 1; break;
            default:
                least = Integer.parseInt(part.split(":")[0]);
                most = Integer.parseInt(part.split(":")[1]);
        }
        java.math.BigInteger value = new java.math.BigInteger(token);
        if (value.compareTo(java.math.BigInteger.valueOf(least)) < 0
                || value.compareTo(java.math.BigInteger.valueOf(most)) > 0) {
            return 2;
        }
        numbers[k] = value.intValue();
        boolean barred = line.equals("sits") && part.equals("A") && seated.contains(numbers[k])
                || line.equals("sits") && part.equals("I") && taken.contains(5 * numbers[2] + numbers[3])
                || line.equals("wears") && part.equals("A") && covered.contains(numbers[k])
                || part.equals("H") && worn.contains(numbers[k])
                || part.equals("B") && stoodOn.contains(numbers[k]);
        if (line.equals("church")) {
            pews = k == 2 ? numbers[k] : pews;
            places = k == 4 ? numbers[k] : places;
        }
        return barred ? 2 : 0;
    }

    private void done(String line, int[] numbers) {
        switch (line) {
            case "person": people++; break;
            case "hat": hats++; break;
            case "book": books++; break;
            case "sits": seated.add(numbers[1]); taken.add(5 * numbers[2] + numbers[3]); break;
            case "wears": covered.add(numbers[1]); worn.add(numbers[2]); break;
            case "stands": stoodOn.add(numbers[2]); break;
            default:
        }
    }

    private int wrong(int which, int where) {
        fault = which;
        place = where;
        return 0;
    }
}
