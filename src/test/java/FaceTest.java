import java.lang.reflect.Field;
import java.lang.reflect.Method;
import java.lang.reflect.Modifier;
import java.nio.file.Files;
import java.nio.file.Path;
import java.util.TreeSet;
import java.util.regex.Matcher;
import java.util.regex.Pattern;

/** The face of the class, and what LANGUAGE.md rules out as far as it can be read off the text. */
public final class FaceTest {
    private static final String FACE = "feed/5 end/1 church/0 fault/1 pew/2 floor/2 who/2 person/2 thing/2 high/2 "
            + "spread/2 level/1 first/1 out/2 above/2 saws/1 saw/2 ways/1 ever/1 sawn/2 lasts/0 clash/1 shuts/1 cut/2 "
            + "books/1 given/2 gifts/1 hats/1 handed/2 rings/2 bare/0 kinds/1 wide/2 away/1 stay/1 stilts/2 lengths/2 "
            + "hump/3 seat/2 sits/3 change/2 pair/1 wears/2 stands/2 trench/3 digs/2 law/1 least/2 seen/2 sure/3 odd/2 "
            + "drawn/1 grown/3 years/3 count/1 image/1 back/1 row/3 write/3 paste/5";

    public static void main(String[] args) throws Exception {
        Checks checks = new Checks("FaceTest");
        face(checks);
        inside(checks);
        if (args.length > 0) {
            text(checks, Files.readString(Path.of(args[0])));
            lengths(checks, Files.readString(Path.of(args[0])));
        }
        checks.finish();
    }

    private static void face(Checks checks) throws Exception {
        Class<?> face = LevelSunday.class;
        checks.isTrue("public", Modifier.isPublic(face.getModifiers()));
        checks.isTrue("final", Modifier.isFinal(face.getModifiers()));
        TreeSet<String> want = new TreeSet<>(java.util.List.of(FACE.split(" ")));
        TreeSet<String> have = new TreeSet<>();
        TreeSet<String> publicNames = new TreeSet<>();
        for (Method m : face.getDeclaredMethods()) {
            if (Modifier.isPublic(m.getModifiers())) {
                have.add(m.getName() + "/" + m.getParameterCount());
                publicNames.add(m.getName());
                checks.isTrue(m.getName() + " answers an int", m.getReturnType() == int.class);
                checks.isTrue(m.getName() + " is asked of an object", !Modifier.isStatic(m.getModifiers()));
                Class<?>[] types = m.getParameterTypes();
                for (int i = 0; i < types.length; i++) {
                    boolean isLong = m.getName().equals("write") && i == 2;
                    checks.isTrue(m.getName() + " takes " + types[i], types[i] == (isLong ? long.class : int.class));
                }
            }
        }
        checks.isTrue("the face is " + have, have.equals(want));
        for (Method m : face.getDeclaredMethods()) {
            if (!Modifier.isPublic(m.getModifiers())) {
                checks.isTrue(m.getName() + " is private", Modifier.isPrivate(m.getModifiers()));
                checks.isTrue(m.getName() + " has no public name", !publicNames.contains(m.getName()));
            }
        }
        for (Field f : face.getDeclaredFields()) {
            checks.isTrue(f.getName() + " is private",
                    f.getName().equals("NONE") || Modifier.isPrivate(f.getModifiers()));
        }
        checks.due("NONE", LevelSunday.NONE, -1);
        Field none = face.getField("NONE");
        checks.isTrue("NONE is a public constant", none.getType() == int.class
                && none.getModifiers() == (Modifier.PUBLIC | Modifier.STATIC | Modifier.FINAL));
        checks.due("constructors", face.getDeclaredConstructors().length, 1);
        checks.due("it takes nothing", face.getConstructor().getParameterCount(), 0);
    }

    private static void inside(Checks checks) {
        Class<?>[] classes = LevelSunday.class.getDeclaredClasses();
        checks.isTrue("at most twelve classes", classes.length + 1 <= 12);
        for (Class<?> c : classes) {
            checks.isTrue(c + " is static", Modifier.isStatic(c.getModifiers()));
            checks.isTrue(c + " is not public", !Modifier.isPublic(c.getModifiers()));
            int fields = 0;
            for (Field f : c.getDeclaredFields()) {
                fields += Modifier.isStatic(f.getModifiers()) ? 0 : 1;
                checks.isTrue(f + " is final if static",
                        !Modifier.isStatic(f.getModifiers()) || Modifier.isFinal(f.getModifiers()));
            }
            checks.isTrue(c + " has at most twenty fields", fields <= 20);
            for (Method m : c.getDeclaredMethods()) {
                checks.isTrue(m + " takes at most seven", m.getParameterCount() <= 7);
                checks.isTrue(m + " has no public name", !(" " + FACE).contains(" " + m.getName() + "/"));
            }
        }
    }

    /** From a line that ends in ") {" and is no statement to the closing one that stands as far in. */
    private static void lengths(Checks checks, String source) {
        Matcher methods = Pattern.compile("(?m)^( {4}| {8})(?!if|for|while|switch|\\})(\\S.*\\)) \\{\n(?s:(.*?))\n\\1\\}")
                .matcher(source);
        int many = 0;
        while (methods.find()) {
            many++;
            checks.isTrue(methods.group(2) + " is short", methods.group(3).lines().count() <= 60);
        }
        checks.isTrue("more methods than the face has: " + many, many > 61);
    }

    private static void text(Checks checks, String source) {
        String code = source.replaceAll("(?s)/\\*.*?\\*/", "").replaceAll("//[^\n]*", "");
        for (String word : new String[] {"throw", "try", "catch", "synchronized", "assert", "package", "MAX_VALUE",
            "MIN_VALUE", "Exact", "Object", "hashCode", "toString", "lambda", "->", "::", "import static"}) {
            checks.isTrue("no " + word, !Pattern.compile("(?<![A-Za-z])" + Pattern.quote(word)).matcher(code).find());
        }
        Matcher calls = Pattern.compile("\\b(Math|Integer|Long|Arrays|System)\\.(\\w+)").matcher(code);
        while (calls.find()) {
            checks.isTrue(calls.group() + " is listed",
                    "Math.min Math.max Integer.bitCount Arrays.fill System.arraycopy".contains(calls.group()));
        }
        Matcher imports = Pattern.compile("import ([^;]+);").matcher(code);
        while (imports.find()) {
            checks.isTrue("import " + imports.group(1), imports.group(1).equals("java.util.Arrays"));
        }
    }
}
