import java.io.File;
import java.io.IOException;
import java.lang.reflect.InvocationTargetException;
import java.lang.reflect.Method;
import java.lang.reflect.Modifier;
import java.nio.file.Files;
import java.nio.file.Path;
import java.util.Arrays;
import java.util.List;
import java.util.regex.Matcher;
import java.util.regex.Pattern;

/** README.md: its examples answer what it says, and it names every method and every test. */
final class ReadmeTest {
    private static final Pattern TEXT = Pattern.compile("String text = \"([^\"]*)\";.*");
    private static final Pattern CALL = Pattern.compile("x\\.(\\w+)\\(([-0-9, ]*)\\);\\s*// (-?\\d+).*");
    private static final String FEEDING = "x.feed(text.charAt(i));";

    private ClauseDrafts x = new ClauseDrafts();
    private String text = "";
    private int calls = 0;

    private ReadmeTest() {
    }

    public static void main(String[] args) throws IOException, IllegalAccessException {
        List<String> lines = Files.readAllLines(Path.of("README.md"));
        ReadmeTest test = new ReadmeTest();
        boolean inExample = false;
        for (String line : lines) {
            if (line.startsWith("```")) {
                inExample = line.equals("```java");
            } else if (inExample) {
                test.run(line.trim());
            }
        }
        Check.holds("the examples have calls", test.calls > 20);
        namesEverything(String.join("\n", lines));
        Check.finish();
    }

    private void run(String line) throws IllegalAccessException {
        Matcher said = TEXT.matcher(line);
        Matcher call = CALL.matcher(line);
        if (line.startsWith("ClauseDrafts x = new ClauseDrafts();")) {
            x = new ClauseDrafts();
        } else if (said.matches()) {
            text = said.group(1);
        } else if (line.equals(FEEDING)) {
            Check.feed(x, text);
        } else if (call.matches()) {
            calls++;
            Check.due(line, Integer.parseInt(call.group(3)), answer(call.group(1), call.group(2)));
        } else {
            Check.holds("known how to run: " + line, line.startsWith("for (") || line.equals("}"));
        }
    }

    private int answer(String name, String list) throws IllegalAccessException {
        Object[] arguments = list.isBlank() ? new Object[0]
                : Arrays.stream(list.split(",")).map(v -> (Object) Integer.valueOf(v.trim())).toArray();
        Class<?>[] types = new Class<?>[arguments.length];
        Arrays.fill(types, int.class);
        try {
            return (Integer) ClauseDrafts.class.getMethod(name, types).invoke(x, arguments);
        } catch (NoSuchMethodException | InvocationTargetException e) {
            Check.holds(name + "(" + list + ") answers, not " + e, false);
            return Integer.MIN_VALUE;
        }
    }

    private static void namesEverything(String page) {
        for (Method m : ClauseDrafts.class.getDeclaredMethods()) {
            if (Modifier.isPublic(m.getModifiers())) {
                Check.holds("the page names " + m.getName(), page.contains("`" + m.getName() + "`"));
            }
        }
        for (File file : new File("src/test/java").listFiles()) {
            String name = file.getName().replace(".java", "");
            if (name.endsWith("Test") || name.endsWith("Edges")) {
                Check.holds("the page names " + name, page.contains("`" + name + "`"));
            }
        }
    }
}
