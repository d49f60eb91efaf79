import java.io.IOException;
import java.lang.reflect.Constructor;
import java.lang.reflect.Field;
import java.lang.reflect.Member;
import java.lang.reflect.Method;
import java.lang.reflect.Modifier;
import java.nio.charset.StandardCharsets;
import java.nio.file.Files;
import java.nio.file.Path;
import java.util.Arrays;
import java.util.Map;
import java.util.Set;
import java.util.TreeMap;
import java.util.TreeSet;
import java.util.regex.Matcher;
import java.util.regex.Pattern;

/** The document's face, no more and no less, and the rules of the language that can be seen from outside. */
public final class FaceTest {
    private static final Path SOURCE = Path.of("src/main/java/StrikeBallots.java");
    private static final String FACE = "branch 1 isOf 2 member 4 move 2 leave 1 of 2 told 2 line 2 roll 2 wipe 0 joined 1 rolls 2 days 1 "
            + "open 1 send 2 sendAll 1 back 3 close 1 name 3 about 2 parcels 1 parcel 3 feed 3 trim 1 law 0 says 3 stands 2 "
            + "lives 2 cure 1 notice 4 noticed 2 holds 1 harm 2 lay 1 rule 2 plan 2 planned 2 cost 1 tell 1 check 2 docked 2 "
            + "sheet 2 mark 3 copy 5 count 1";
    private static final String RULED_OUT = "throw|throws|try|catch|finally|synchronized|assert|protected|volatile|native|"
            + "extends|transient|lambda|System\\.(?!arraycopy)\\w+|Exception|Random|Thread|Object|->|::|\\w+Exact";

    private static final Checks c = new Checks();

    public static void main(String[] args) throws IOException, ReflectiveOperationException {
        constants();
        methods();
        others();
        nested();
        source(Files.readString(SOURCE, StandardCharsets.ISO_8859_1));
        c.end();
    }

    private static void constants() throws ReflectiveOperationException {
        c.due("BAD", StrikeBallots.BAD, -1000000001);
        c.due("NO", StrikeBallots.NO, -1000000002);
        c.due("FULL", StrikeBallots.FULL, -1000000003);
        c.due("NONE", StrikeBallots.NONE, -1000000005);
        c.due("NOTHING", StrikeBallots.NOTHING, -1000000011);
        c.due("INDEX", StrikeBallots.INDEX, -1000000013);
        c.due("SIZE", StrikeBallots.SIZE, -1000000014);
        Set<String> seen = new TreeSet<>();
        for (Field field : StrikeBallots.class.getDeclaredFields()) {
            if (Modifier.isPublic(field.getModifiers())) {
                seen.add(field.getName());
            }
        }
        Set<String> due = new TreeSet<>(Arrays.asList("BAD", "NO", "FULL", "NONE", "NOTHING", "INDEX", "SIZE"));
        c.holds("the public fields are " + seen, seen.equals(due));
    }

    private static Map<String, Integer> face() {
        Map<String, Integer> face = new TreeMap<>();
        String[] words = FACE.split(" ");
        for (int i = 0; i < words.length; i += 2) {
            face.put(words[i], Integer.parseInt(words[i + 1]));
        }
        return face;
    }

    private static void methods() {
        Map<String, Integer> seen = new TreeMap<>();
        for (Method method : StrikeBallots.class.getDeclaredMethods()) {
            if (Modifier.isPublic(method.getModifiers())) {
                boolean isOfInts = Arrays.stream(method.getParameterTypes()).allMatch(t -> t == int.class);
                c.holds(method + " is not of ints", isOfInts && method.getReturnType() == int.class);
                c.holds(method + " is there twice", seen.put(method.getName(), method.getParameterCount()) == null);
            } else {
                c.holds(method + " bears a public name", !face().containsKey(method.getName()));
            }
        }
        c.holds("the public methods are " + seen, seen.equals(face()));
        c.due("how many methods", seen.size(), 45);
    }

    private static void others() {
        c.holds("the class is not public and final",
                (StrikeBallots.class.getModifiers() & (Modifier.PUBLIC | Modifier.FINAL)) == (Modifier.PUBLIC | Modifier.FINAL));
        Constructor<?>[] constructors = StrikeBallots.class.getDeclaredConstructors();
        c.holds("not one public constructor without parameters", constructors.length == 1
                && Modifier.isPublic(constructors[0].getModifiers()) && constructors[0].getParameterCount() == 0);
        for (Method method : StrikeBallots.class.getDeclaredMethods()) {
            publicOrPrivate(method);
        }
        for (Field field : StrikeBallots.class.getDeclaredFields()) {
            publicOrPrivate(field);
        }
    }

    private static void publicOrPrivate(Member member) {
        c.holds(member + " is neither public nor private",
                Modifier.isPublic(member.getModifiers()) || Modifier.isPrivate(member.getModifiers()));
    }

    private static void nested() {
        Class<?>[] nested = StrikeBallots.class.getDeclaredClasses();
        c.holds("more than twelve classes", nested.length + 1 <= 12);
        for (Class<?> own : nested) {
            c.holds(own + " is not private and static",
                    Modifier.isPrivate(own.getModifiers()) && Modifier.isStatic(own.getModifiers()));
            for (Method method : own.getDeclaredMethods()) {
                c.holds(method + " bears a public name", !face().containsKey(method.getName()));
                c.holds(method + " has too many parameters", method.getParameterCount() <= 7);
            }
            long fields = Arrays.stream(own.getDeclaredFields()).filter(f -> !Modifier.isStatic(f.getModifiers())).count();
            c.holds(own + " has too many fields", fields <= 20);
            for (Field field : own.getDeclaredFields()) {
                c.holds(field + " is static and not final",
                        !Modifier.isStatic(field.getModifiers()) || Modifier.isFinal(field.getModifiers()));
                // Rule 7: what is set once, when the object is made, is never null behind that.
                c.holds(field + " holds an object and is not final",
                        field.getType().isPrimitive() || Modifier.isFinal(field.getModifiers()));
            }
        }
    }

    private static void source(String text) {
        String bare = text.replaceAll("(?s)/\\*.*?\\*/", "").replaceAll("//[^\n]*", "").replaceAll("\"[^\"]*\"", "\"\"");
        Matcher found = Pattern.compile("(?<!\\w)(" + RULED_OUT + ")(?!\\w)").matcher(bare);
        while (found.find()) {
            c.holds("the source has " + found.group(), false);
        }
        found = Pattern.compile("import ([^;]*);").matcher(bare);
        while (found.find()) {
            c.holds("the source imports " + found.group(1), found.group(1).equals("java.util.Arrays"));
        }
        c.holds("a sign of the source is not of 1 to 127", text.chars().allMatch(sign -> sign >= 1 && sign <= 127));
        c.holds("there is a package line", !Pattern.compile("(?m)^package ").matcher(bare).find());
        lengths(bare);
    }

    /** Methods stand one level or two in; a line that closes one ends it. */
    private static void lengths(String bare) {
        String[] lines = bare.split("\n");
        for (int i = 0; i < lines.length; i++) {
            if (!lines[i].matches(" {4}( {4})?\\w[^=;]*\\) \\{")) {
                continue;
            }
            String closing = lines[i].replaceAll("\\S.*", "") + "}";
            int end = i;
            while (end < lines.length - 1 && !lines[end].equals(closing)) {
                end++;
            }
            c.holds("too long: " + lines[i].trim(), end - i < 60);
        }
    }
}
