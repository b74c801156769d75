import java.io.IOException;
import java.lang.reflect.Field;
import java.lang.reflect.Method;
import java.lang.reflect.Modifier;
import java.nio.charset.StandardCharsets;
import java.nio.file.Files;
import java.nio.file.Path;
import java.util.regex.Matcher;
import java.util.regex.Pattern;

/** README.md: its example answers what it says; it names each call, each constant, each bound of the text. */
public final class ReadmeTest {
    private static final Check CHECK = new Check("ReadmeTest");
    private static final Pattern TEXT = Pattern.compile("for \\(char c : \"([^\"]*)\"");
    private static final Pattern CALL = Pattern.compile("x\\.(\\w+)\\(([^)]*)\\); *// (-?\\d+)(?:, ([A-Z]+))?(?:: .*)?");
    private static final Pattern BOUNDS = Pattern.compile("(\\d+) \\.\\. (\\d+)");

    private final String page;

    private ReadmeTest(String page) {
        this.page = page;
    }

    public static void main(String[] args) throws IOException, ReflectiveOperationException {
        ReadmeTest test = new ReadmeTest(Files.readString(Path.of("README.md"), StandardCharsets.UTF_8));
        test.example();
        test.calls();
        test.constants();
        test.boundsOfItem("t", "1 0 0");
        test.boundsOfItem("n", "1 1 1");
        test.tests();
        CHECK.end();
    }

    private void example() throws ReflectiveOperationException {
        CHECK.sentence("a short example");
        Matcher block = Pattern.compile("(?s)```java\n(.*?)```").matcher(page);
        isTrue("there is an example", block.find());
        TemperNurses x = new TemperNurses();
        int answers = 0;
        for (String line : block.group(1).split("\n")) {
            Matcher text = TEXT.matcher(line);
            Matcher call = CALL.matcher(line);
            if (text.find()) {
                Check.typeAll(x, text.group(1));
            } else if (call.matches()) {
                answers++;
                long due = Long.parseLong(call.group(3));
                CHECK.due(line, answer(x, call.group(1), call.group(2)), due);
                if (call.group(4) != null) CHECK.due(line, TemperNurses.class.getField(call.group(4)).getInt(null), due);
            } else {
                isTrue(line, line.equals("TemperNurses x = new TemperNurses();"));
            }
        }
        isTrue("the example has answers", answers > 5);
    }

    private static long answer(TemperNurses x, String name, String told) throws ReflectiveOperationException {
        String[] numbers = told.isEmpty() ? new String[0] : told.split(", ");
        Class<?>[] types = new Class<?>[numbers.length];
        Object[] values = new Object[numbers.length];
        for (int i = 0; i < numbers.length; i++) {
            types[i] = int.class;
            values[i] = Integer.valueOf(numbers[i]);
        }
        return ((Number) TemperNurses.class.getMethod(name, types).invoke(x, values)).longValue();
    }

    private void calls() {
        CHECK.sentence("what each group of calls is for");
        for (Method m : TemperNurses.class.getDeclaredMethods()) {
            if (!Modifier.isPublic(m.getModifiers())) continue;
            String told = m.getParameterCount() == 0 ? "" : "\\w+(, \\w+){" + (m.getParameterCount() - 1) + "}";
            isTrue(m + " has a row", has("(?m)^\\| `" + m.getName() + "\\(" + told + "\\)` \\| .+ \\|$"));
        }
        for (String group : new String[] {"The hill", "What is done", "Plans", "Whose it is", "Kinds, images"}) {
            isTrue(group, has("(?m)^" + group + "( \\(.*\\))?:\n\n\\| Call"));
        }
    }

    private void constants() throws ReflectiveOperationException {
        CHECK.sentence("what the answers BAD, STATE, FULL, NONE and NO mean");
        for (Field f : TemperNurses.class.getFields()) {
            isTrue(f.getName() + " has a row", has("(?m)^\\| `" + f.getName() + "` \\(" + f.getInt(null) + "\\) \\| .+ \\|$"));
        }
    }

    /** The bounds in an item's row are those by which a text is read. */
    private void boundsOfItem(String letter, String plain) {
        CHECK.sentence("how a text is typed and told");
        Matcher row = Pattern.compile("(?m)^\\| `" + letter + " .*;` \\|.*\\| (.*) \\|$").matcher(page);
        isTrue(letter + " has a row", row.find());
        Matcher bounds = BOUNDS.matcher(row.group(1));
        for (int place = 0; place < 3; place++) {
            isTrue(letter + " has bounds " + place, bounds.find());
            int least = Integer.parseInt(bounds.group(1));
            int most = Integer.parseInt(bounds.group(2));
            for (int value = Math.max(0, least - 1); value <= most + 1; value++) {
                String[] numbers = plain.split(" ");
                numbers[place] = "" + value;
                String text = letter + String.join(" ", numbers) + ";";
                isTrue(text, (Check.read(text) == 1) == (value >= least && value <= most));
            }
        }
    }

    private void tests() throws IOException {
        CHECK.sentence("how to run its tests");
        isTrue(".ci/run", page.contains(".ci/run") && Files.isExecutable(Path.of(".ci/run")));
        try (var files = Files.newDirectoryStream(Path.of("src/test/java"), "*Test.java")) {
            for (Path file : files) {
                String name = file.getFileName().toString().replace(".java", "");
                isTrue(name + " is named", page.contains("`" + name + "`"));
            }
        }
    }

    private boolean has(String pattern) {
        return Pattern.compile(pattern).matcher(page).find();
    }

    private static void isTrue(String what, boolean so) {
        CHECK.due(what, so ? 1 : 0, 1);
    }
}
