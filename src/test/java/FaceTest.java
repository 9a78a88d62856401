import java.io.IOException;
import java.lang.reflect.Constructor;
import java.lang.reflect.Field;
import java.lang.reflect.Method;
import java.lang.reflect.Modifier;
import java.nio.file.Files;
import java.nio.file.Path;
import java.util.List;
import java.util.TreeSet;

/** The face as the document tells it and no more, and some of the rules of LANGUAGE.md that a text shows. */
public final class FaceTest {
    private static final Check CHECK = new Check("FaceTest");
    private static final String METHODS = "about(2) barred(0) behind(2) chain(1) dearest(0) fault(0) grows(1) image(1) "
        + "layer(1) order(1) read(1) restore(1) rows(1) safe(1) say(1) spill(2) spills(1) text(0) told(1) twice(1) "
        + "unchain(0) wipe(0)";
    private static final String CONSTANTS = "FULL=-4 LONG=-7 NO=-5 NONE=-6 OUTSIDE=-2 STATE=-3 UNKNOWN=-1";
    /** What the rules leave out and the plain program has no use for. */
    private static final List<String> UNUSED = List.of("import ", "package ", "->", "::", "catch", "try ", "finally",
        "synchronized", "assert", "instanceof", "public static void main", "System.", "Math.random", "Object ",
        "String ", "hashCode", "throw ", "protected ");

    public static void main(String[] args) throws Exception {
        members();
        nested();
        source();
        CHECK.end();
    }

    private static void members() throws Exception {
        Class<?> face = QuotedLayers.class;
        CHECK.due("public final", face.getModifiers(), Modifier.PUBLIC | Modifier.FINAL);
        TreeSet<String> constants = new TreeSet<>();
        for (Field f : face.getDeclaredFields()) {
            int m = f.getModifiers();
            if (!Modifier.isPrivate(m)) {
                CHECK.due(f.getName() + "'s modifiers", m, Modifier.PUBLIC | Modifier.STATIC | Modifier.FINAL);
                constants.add(f.getName() + "=" + f.getInt(null));
            }
            CHECK.due(f.getName() + " static and not final", Modifier.isStatic(m) && !Modifier.isFinal(m) ? 1 : 0, 0);
        }
        CHECK.due("constants", String.join(" ", constants), CONSTANTS);
        TreeSet<String> methods = new TreeSet<>();
        TreeSet<String> hidden = new TreeSet<>();
        for (Method m : face.getDeclaredMethods()) {
            if (Modifier.isPrivate(m.getModifiers())) {
                hidden.add(m.getName());
                continue;
            }
            CHECK.due(m.getName() + " answers an int", m.getReturnType().getName(), "int");
            CHECK.due(m.getName() + "'s modifiers", m.getModifiers(), Modifier.PUBLIC);
            methods.add(m.getName() + "(" + m.getParameterCount() + ")");
        }
        CHECK.due("methods", String.join(" ", methods), METHODS);
        for (String name : hidden) {
            CHECK.due(name + " is private and public", METHODS.contains(" " + name + "(") ? 1 : 0, 0);
        }
        Constructor<?>[] made = face.getDeclaredConstructors();
        CHECK.due("constructors", made.length, 1);
        CHECK.due("its parameters", made[0].getParameterCount(), 0);
        CHECK.due("it is public", made[0].getModifiers(), Modifier.PUBLIC);
    }

    private static void nested() {
        Class<?>[] inside = QuotedLayers.class.getDeclaredClasses();
        CHECK.due("more than eleven classes inside", inside.length > 11 ? 1 : 0, 0);
        for (Class<?> c : inside) {
            int m = c.getModifiers();
            CHECK.due(c.getName() + " is static", Modifier.isStatic(m) ? 1 : 0, 1);
            CHECK.due(c.getName() + " is public or protected", m & (Modifier.PUBLIC | Modifier.PROTECTED), 0);
            for (Field f : c.getDeclaredFields()) {
                int fm = f.getModifiers();
                CHECK.due(c.getName() + "." + f.getName(), Modifier.isStatic(fm) && !Modifier.isFinal(fm) ? 1 : 0, 0);
            }
        }
    }

    private static void source() throws IOException {
        List<String> lines = Files.readAllLines(Path.of("src/main/java/QuotedLayers.java"));
        String all = String.join("\n", lines);
        for (String word : UNUSED) {
            CHECK.due("\"" + word + "\" in the program", all.contains(word) ? 1 : 0, 0);
        }
        int begun = 0;
        for (int i = 0; i < lines.size(); i++) {
            String line = lines.get(i);
            for (char c : line.toCharArray()) {
                CHECK.due("a sign of line " + (i + 1), c >= 32 && c < 127 ? 1 : 0, 1);
            }
            if (line.matches("    (    )?[a-zA-Z].*\\) \\{")) {
                begun = i;
            } else if (line.matches("    (    )?}")) {
                CHECK.due("the lines of what ends at " + (i + 1), i - begun > 60 && line.length() > 5 ? 1 : 0, 0);
            }
        }
    }
}
