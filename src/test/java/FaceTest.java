import java.lang.reflect.Constructor;
import java.lang.reflect.Field;
import java.lang.reflect.Member;
import java.lang.reflect.Method;
import java.lang.reflect.Modifier;
import java.nio.file.Files;
import java.nio.file.Path;
import java.util.Arrays;
import java.util.Set;
import java.util.TreeSet;
import java.util.regex.Matcher;
import java.util.regex.Pattern;

/** The public face as the document tells it, and those rules of LANGUAGE.md that can be seen in the text. */
public final class FaceTest {
    private static final String[] METHODS = {"cushion int int", "pin int int", "thread int int int", "of int int",
        "at int int", "cell int", "type int", "read", "count int", "days int", "out int", "put int int", "cut int",
        "course int int", "drift int", "undo", "seed int", "ahead int int", "holes int", "comes int int", "side int int",
        "hole int int int", "cuts int int int", "place int int int", "nearest int int", "bound int", "between int int",
        "which int", "breaks int int int int int", "image", "restore", "felt int int int int int int",
        "film int int int int int", "sheet int int int", "drop int", "item int int int long", "copy int int int int int"};
    private static final String[] CONSTANTS = {"BAD", "NOT", "FULL", "NONE", "NULL", "CAST", "INDEX", "SIZE"};
    private static final int[] VALUES = {-1, -2, -3, -4, -11, -12, -13, -14};
    private static final String[] BARRED = {"->", "::", "\\btry\\b", "\\bcatch\\b", "\\bthrows?\\b", "\\bfinally\\b",
        "\\bsynchronized\\b", "\\bassert\\b", "\\bnative\\b", "\\bvolatile\\b", "\\bpackage\\b", "\\bprotected\\b",
        "\\bvar\\b", "\\bwhile \\(true\\)", "\"\\s*\\+", "\\+\\s*\"", "\\bSystem\\.(?!arraycopy\\b)",
        "\\bMath\\.(?!max\\b|min\\b|abs\\b)", "\\b(Integer|Long)\\.(?!bitCount\\()",
        "\\bimport (?!java\\.util\\.Arrays;)", "\\bjava\\.(?!util\\.Arrays;)",
        "\\bstatic (?!final |class |int |boolean |void )", "[^\\x00-\\x7f]"};

    public static void main(String[] args) throws Exception {
        face();
        constants();
        Set<String> told = new TreeSet<>();
        for (String m : METHODS) {
            told.add(m.split(" ")[0]);
        }
        fits(PinAtlas.class, told);
        for (Class<?> c : PinAtlas.class.getDeclaredClasses()) {
            Due.is(c + " is static", Modifier.isStatic(c.getModifiers()) ? 1 : 0, 1);
            Due.is(c + " is private", Modifier.isPrivate(c.getModifiers()) ? 1 : 0, 1);
            fits(c, told);
        }
        text();
        Due.end();
    }

    private static void face() {
        Due.is("public and final", PinAtlas.class.getModifiers(), Modifier.PUBLIC | Modifier.FINAL);
        Constructor<?>[] made = PinAtlas.class.getDeclaredConstructors();
        Due.is("constructors", made.length, 1);
        Due.is("of no argument", made[0].getParameterCount(), 0);
        Set<String> found = new TreeSet<>();
        for (Method m : PinAtlas.class.getDeclaredMethods()) {
            if (Modifier.isPublic(m.getModifiers())) {
                StringBuilder b = new StringBuilder(m.getName());
                for (Class<?> p : m.getParameterTypes()) {
                    b.append(' ').append(p.getName());
                }
                found.add(b.toString());
                Due.is(m + " answers an int", m.getReturnType() == int.class ? 1 : 0, 1);
                Due.is(m + " is no static one", Modifier.isStatic(m.getModifiers()) ? 1 : 0, 0);
            }
        }
        Due.is("the methods are " + found, found.equals(new TreeSet<>(Arrays.asList(METHODS))) ? 1 : 0, 1);
    }

    private static void constants() throws Exception {
        int many = 0;
        for (Field f : PinAtlas.class.getDeclaredFields()) {
            many += Modifier.isPublic(f.getModifiers()) ? 1 : 0;
        }
        Due.is("public fields", many, CONSTANTS.length);
        for (int k = 0; k < CONSTANTS.length; k++) {
            Field f = PinAtlas.class.getField(CONSTANTS[k]);
            Due.is(f + ", its kind", f.getModifiers(), Modifier.PUBLIC | Modifier.STATIC | Modifier.FINAL);
            Due.is(f + ", its value", f.getInt(null), VALUES[k]);
        }
    }

    private static void fits(Class<?> c, Set<String> told) {
        int fields = 0;
        for (Field f : c.getDeclaredFields()) {
            isHidden(f, Modifier.isPublic(f.getModifiers()));
            fields += Modifier.isStatic(f.getModifiers()) ? 0 : 1;
            Due.is(f + ": what is static is final", Modifier.isStatic(f.getModifiers()) && !Modifier.isFinal(f.getModifiers()) ? 1 : 0, 0);
        }
        Due.is(c + " has few fields", fields <= 20 ? 1 : 0, 1);
        for (Method m : c.getDeclaredMethods()) {
            boolean isTold = c == PinAtlas.class && Modifier.isPublic(m.getModifiers());
            isHidden(m, isTold);
            Due.is(m + " bears a name of the face", !isTold && told.contains(m.getName()) ? 1 : 0, 0);
            Due.is(m + " has few parameters", m.getParameterCount() <= 7 ? 1 : 0, 1);
        }
    }

    private static void isHidden(Member m, boolean isTold) {
        Due.is(m + " is private, or of the face", isTold || Modifier.isPrivate(m.getModifiers()) ? 1 : 0, 1);
    }

    private static void text() throws Exception {
        String text = Files.readString(Path.of("src/main/java/PinAtlas.java"));
        String code = text.replaceAll("//[^\n]*", "");
        for (String barred : BARRED) {
            Matcher m = Pattern.compile(barred).matcher(code);
            String seen = m.find() ? " stands at " + m.start() + ": " + m.group() : "";
            Due.is("what rule 4 or 6 bars, " + barred + seen, seen.length(), 0);
        }
        String[] lines = code.split("\n");
        int from = -1;
        int deep = 0;
        for (int k = 0; k < lines.length; k++) {
            int before = deep;
            for (char c : lines[k].toCharArray()) {
                deep += c == '{' ? 1 : c == '}' ? -1 : 0;
            }
            boolean opens = before < deep && lines[k].contains("(") && !lines[k].matches("\\s*(\\} )?(if|for|else|while|switch|do)\\b.*");
            if (opens) {
                from = k;
            }
            Due.is("line " + (k + 1) + ": a method of some sixty lines at most", from >= 0 && before > 1 && k - from > 60 ? 1 : 0, 0);
        }
    }
}
