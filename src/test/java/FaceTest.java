import java.io.IOException;
import java.lang.reflect.Field;
import java.lang.reflect.Method;
import java.lang.reflect.Modifier;
import java.nio.charset.StandardCharsets;
import java.nio.file.Files;
import java.nio.file.Path;
import java.util.Set;
import java.util.TreeSet;
import java.util.regex.Matcher;
import java.util.regex.Pattern;

/** The public face, and the rules of LANGUAGE.md that can be seen in the source. */
public final class FaceTest {
    private static final Check CHECK = new Check("FaceTest");
    private static final String[] METHODS = {
        "int type(int)", "int clear()", "int hill()", "int temper(int,int)", "int nurse(int,int)",
        "int sends(int,int)", "int fetches(int)", "int visits(int)", "int mixes(int,int)", "int years(int)",
        "int undo()", "int now(int)", "int when(int,int)", "int hot(int,int)", "int plan(int)", "int best(int,int)",
        "int beds(int,int)", "int odds(int,int,int)", "int hears(int,int)", "int forget()", "int whose()", "int ask()",
        "int mark(int,int)", "int keep(int)", "int back(int)", "int count(int)", "long trace()"};
    private static final String[] FORBIDDEN = {
        "throw", "throws", "try", "catch", "finally", "synchronized", "assert", "double", "float", "Exact", "protected",
        "volatile", "transient", "native", "Object", "Random", "Thread", "File", "equals", "hashCode", "toString"};

    public static void main(String[] args) throws IOException {
        constants();
        members();
        noHiddenNames();
        source();
        CHECK.end();
    }

    private static void constants() {
        CHECK.due("BAD", TemperNurses.BAD, -1);
        CHECK.due("STATE", TemperNurses.STATE, -2);
        CHECK.due("FULL", TemperNurses.FULL, -3);
        CHECK.due("NONE", TemperNurses.NONE, -9);
        CHECK.due("NO", TemperNurses.NO, -1000000);
    }

    private static void members() {
        Set<String> methods = new TreeSet<>();
        for (Method m : TemperNurses.class.getDeclaredMethods()) {
            if (Modifier.isPrivate(m.getModifiers())) continue;
            isTrue(m + " is public, not static", Modifier.isPublic(m.getModifiers()) && !Modifier.isStatic(m.getModifiers()));
            methods.add(m.toString().replace("public ", "").replace("TemperNurses.", ""));
        }
        isTrue("the methods are " + methods, methods.equals(new TreeSet<>(Set.of(METHODS))));
        Set<String> fields = new TreeSet<>();
        for (Field f : TemperNurses.class.getDeclaredFields()) {
            if (!Modifier.isPrivate(f.getModifiers())) fields.add(f.toString());
            if (Modifier.isStatic(f.getModifiers())) isTrue(f + " is final", Modifier.isFinal(f.getModifiers()));
        }
        CHECK.due("fields that are not private: " + fields, fields.size(), 5);
        CHECK.due("constructors", TemperNurses.class.getDeclaredConstructors().length, 1);
        isTrue("public and final", TemperNurses.class.getModifiers() == (Modifier.PUBLIC | Modifier.FINAL));
    }

    private static void noHiddenNames() {
        Class<?>[] inside = TemperNurses.class.getDeclaredClasses();
        isTrue("some twelve classes at most", inside.length <= 11);
        for (Class<?> c : inside) {
            isTrue(c + " is static", Modifier.isStatic(c.getModifiers()));
            for (Method m : c.getDeclaredMethods()) {
                for (String face : METHODS) {
                    isTrue(c + " has no method like " + face, !face.contains(" " + m.getName() + "("));
                }
            }
        }
    }

    private static void source() throws IOException {
        String text = Files.readString(Path.of("src/main/java/TemperNurses.java"), StandardCharsets.UTF_8);
        for (int i = 0; i < text.length(); i++) {
            if (text.charAt(i) > 126) isTrue("byte " + i + " of the source is plain", false);
        }
        String code = text.replaceAll("(?s)/\\*.*?\\*/", "").replaceAll("//[^\n]*", "");
        for (String word : FORBIDDEN) isTrue("no " + word, !Pattern.compile("\\b" + word + "\\b").matcher(code).find());
        isTrue("no lambda, no arrow", !code.contains("->"));
        isTrue("no method reference", !code.contains("::"));
        isTrue("no text", !code.contains("\""));
        Matcher imports = Pattern.compile("import ([^;]*);").matcher(code);
        while (imports.find()) isTrue("import " + imports.group(1), imports.group(1).equals("java.util.Arrays"));
    }

    private static void isTrue(String what, boolean so) {
        CHECK.due(what, so ? 1 : 0, 1);
    }
}
