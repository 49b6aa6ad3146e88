import java.io.IOException;
import java.lang.reflect.Constructor;
import java.lang.reflect.Field;
import java.lang.reflect.Method;
import java.lang.reflect.Modifier;
import java.nio.file.Files;
import java.nio.file.Path;
import java.util.Arrays;
import java.util.List;
import java.util.Set;
import java.util.TreeSet;
import java.util.regex.Pattern;

/** The document's public face, and the rules of LANGUAGE.md that a look from outside can tell. */
final class FaceTest {
    private static final List<String> FACE = List.of("feed 1", "end 1", "text 0", "fault 0",
            "draft 2", "clause 3", "word 3", "kept 3", "leads 3", "cost 1", "between 2", "change 2",
            "choose 2", "decide 1", "shown 2", "shownClause 3", "shownWord 3", "find 3", "settle 0",
            "head 1", "write 4", "insert 4", "erase 3", "add 2", "strike 2", "swap 2", "exchange 0",
            "keep 1", "back 1", "sheet 3", "lay 3", "paste 5", "count 1");

    private FaceTest() {
    }

    public static void main(String[] args) throws IOException {
        publicMethods();
        constantsAndFields();
        classesInside();
        String code = source();
        forbiddenWords(code);
        lengthOfMethods(code);
        Check.finish();
    }

    private static void publicMethods() {
        Class<?> c = ClauseDrafts.class;
        Check.holds("the class is public and final",
                Modifier.isPublic(c.getModifiers()) && Modifier.isFinal(c.getModifiers()));
        Set<String> names = new TreeSet<>();
        Set<String> found = new TreeSet<>();
        for (Method m : c.getDeclaredMethods()) {
            if (Modifier.isPublic(m.getModifiers())) {
                found.add(m.getName() + " " + m.getParameterCount());
                names.add(m.getName());
                Check.holds(m + " is of ints", m.getReturnType() == int.class
                        && Arrays.stream(m.getParameterTypes()).allMatch(t -> t == int.class)
                        && !Modifier.isStatic(m.getModifiers()));
            }
        }
        Check.same("public methods", new TreeSet<>(FACE).toString(), found.toString());
        for (Method m : c.getDeclaredMethods()) {
            boolean hidden = Modifier.isPrivate(m.getModifiers()) && !names.contains(m.getName());
            Check.holds(m + " is public or private", Modifier.isPublic(m.getModifiers()) || hidden);
        }
        Constructor<?>[] all = c.getDeclaredConstructors();
        Check.holds("one public constructor without parameters", all.length == 1
                && Modifier.isPublic(all[0].getModifiers()) && all[0].getParameterCount() == 0);
    }

    private static void constantsAndFields() {
        Check.due("constants", "-1 -2 -3 -4", ClauseDrafts.BAD, ClauseDrafts.STATE,
                ClauseDrafts.FULL, ClauseDrafts.NONE);
        Set<String> found = new TreeSet<>();
        for (Field f : ClauseDrafts.class.getDeclaredFields()) {
            if (Modifier.isPublic(f.getModifiers())) {
                found.add(f.getName());
                Check.holds(f + " is a constant int", f.getType() == int.class
                        && Modifier.isStatic(f.getModifiers()) && Modifier.isFinal(f.getModifiers()));
            } else {
                Check.holds(f + " is private", Modifier.isPrivate(f.getModifiers()));
            }
        }
        Check.same("public constants", "[BAD, FULL, NONE, STATE]", found.toString());
    }

    private static void classesInside() {
        Class<?>[] inside = ClauseDrafts.class.getDeclaredClasses();
        Check.holds("at most twelve classes", inside.length + 1 <= 12);
        for (Class<?> c : inside) {
            Check.holds(c + " is static", Modifier.isStatic(c.getModifiers()));
            Check.holds(c + " is not public", !Modifier.isPublic(c.getModifiers())
                    && !Modifier.isProtected(c.getModifiers()));
            int fields = 0;
            for (Field f : c.getDeclaredFields()) {
                boolean isStatic = Modifier.isStatic(f.getModifiers());
                fields += isStatic ? 0 : 1;
                Check.holds(f + " is no changing static field",
                        !isStatic || Modifier.isFinal(f.getModifiers()));
            }
            Check.holds(c + " has at most twenty fields", fields <= 20);
            for (Method m : c.getDeclaredMethods()) {
                Check.holds(m + " has at most seven parameters", m.getParameterCount() <= 7);
                Check.holds(m + " has no name of a public method",
                        FACE.stream().noneMatch(face -> face.startsWith(m.getName() + " ")));
            }
        }
    }

    /** The source without its comments. */
    private static String source() throws IOException {
        String text = Files.readString(Path.of("src/main/java/ClauseDrafts.java"));
        Check.holds("the source has signs up to 126 alone", text.chars().allMatch(c -> c < 127));
        return text.replaceAll("(?s)/\\*.*?\\*/", "").replaceAll("//[^\n]*", "");
    }

    private static void forbiddenWords(String code) {
        String[] words = {"throw", "throws", "try", "catch", "finally", "synchronized", "assert",
            "package", "protected", "volatile", "transient", "native", "strictfp", "Object",
            "hashCode", "Thread", "Random"};
        for (String word : words) {
            Check.holds("no " + word, !Pattern.compile("\\b" + word + "\\b").matcher(code).find());
        }
        for (String sign : new String[] {"::", "@", "Exact", ") ->"}) {
            Check.holds("no " + sign, !code.contains(sign));
        }
        Check.holds("no loop without a condition", !Pattern.compile(
                "while\\s*\\(\\s*true|for\\s*\\([^;]*;\\s*;").matcher(code).find());
    }

    private static void lengthOfMethods(String code) {
        int begin = 0;
        int number = 0;
        for (String line : code.split("\n", -1)) {
            number++;
            boolean isHead = line.matches(" {4}(| {4})[A-Za-z].*\\(.*\\) \\{");
            begin = isHead ? number : begin;
            if (line.matches(" {4}(| {4})\\}")) {
                Check.holds("the method before line " + number + " is short", number - begin <= 60);
            }
        }
        Check.holds("methods were seen", begin > 0);
    }
}
