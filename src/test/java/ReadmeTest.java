import java.lang.reflect.Method;
import java.nio.file.Files;
import java.nio.file.Path;
import java.util.Arrays;
import java.util.HashMap;
import java.util.List;
import java.util.Map;
import java.util.regex.Matcher;
import java.util.regex.Pattern;
import java.util.stream.Collectors;
import java.util.stream.Stream;

/** What README.md shows is so: its examples are run as they stand there, each behind the one above it. */
public final class ReadmeTest {
    private static final String OBJECT = "PinAtlas x = new PinAtlas();";
    private static final Pattern TYPED = Pattern.compile("for \\(char letter : \"([^\"]*)\"\\.toCharArray\\(\\)\\) \\{ x\\.type\\(letter\\); \\}");
    private static final Pattern CALL = Pattern.compile("(?:int (\\w+) = )?x\\.(\\w+)\\((.*)\\);\\s*// (-?\\d+): .+");
    private static final Map<String, Integer> NAMES = new HashMap<>();
    private static PinAtlas x;

    public static void main(String[] args) throws Exception {
        String page = Files.readString(Path.of("README.md"));
        Matcher blocks = Pattern.compile("(?s)```java\n(.*?)```").matcher(page);
        while (blocks.find()) {
            for (String line : blocks.group(1).split("\n")) {
                runs(line);
            }
        }
        Due.is("the page has examples", Due.asked() > 20 ? 1 : 0, 1);
        constants(page);
        tests(page);
        Due.end();
    }

    private static void runs(String line) throws Exception {
        Matcher typed = TYPED.matcher(line);
        Matcher call = CALL.matcher(line);
        if (line.startsWith(OBJECT)) {
            x = new PinAtlas();
        } else if (typed.matches()) {
            Due.is(line, Due.type(x, typed.group(1)), typed.group(1).length());
        } else if (call.matches()) {
            int got = answer(call.group(2), call.group(3));
            Due.is(line, got, Integer.parseInt(call.group(4)));
            NAMES.put(String.valueOf(call.group(1)), got);
        } else {
            Due.isWrong("this line of README.md tells no answer: " + line);
        }
    }

    private static int answer(String name, String told) throws Exception {
        for (Method m : PinAtlas.class.getMethods()) {
            if (m.getName().equals(name) && m.getDeclaringClass() == PinAtlas.class) {
                return (Integer) m.invoke(x, values(m, told));
            }
        }
        Due.isWrong("README.md shows a call that is not there: " + name);
        return 0;
    }

    private static Object[] values(Method m, String told) {
        String[] words = told.isEmpty() ? new String[0] : told.split(", ");
        Object[] values = new Object[words.length];
        for (int k = 0; k < words.length; k++) {
            Integer named = NAMES.get(words[k]);
            int v = named == null ? Integer.parseInt(words[k]) : named;
            values[k] = m.getParameterTypes()[k] == long.class ? (Object) (long) v : (Object) v;
        }
        return values;
    }

    private static void constants(String page) throws Exception {
        for (String name : List.of("BAD", "NOT", "FULL", "NONE", "NULL", "CAST", "INDEX", "SIZE")) {
            String row = "| `" + name + "` | " + PinAtlas.class.getField(name).getInt(null) + " |";
            Due.is("a row " + row, page.contains(row) ? 1 : 0, 1);
        }
    }

    private static void tests(String page) throws Exception {
        List<String> told = Arrays.stream(page.split("\n")).filter(row -> row.matches("\\| `\\w+Test` \\|.*"))
            .map(row -> row.replaceAll("^\\| `(\\w+)`.*", "$1")).sorted().collect(Collectors.toList());
        try (Stream<Path> files = Files.list(Path.of("src/test/java"))) {
            List<String> there = files.map(f -> f.getFileName().toString()).filter(f -> f.endsWith("Test.java"))
                .map(f -> f.replace(".java", "")).sorted().collect(Collectors.toList());
            Due.same("the tests that README.md names", told.toString(), there.toString());
        }
    }
}
