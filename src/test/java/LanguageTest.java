import java.io.IOException;
import java.lang.reflect.Field;
import java.lang.reflect.Method;
import java.lang.reflect.Modifier;
import java.nio.file.Files;
import java.nio.file.Path;
import java.util.Arrays;
import java.util.Set;
import java.util.TreeSet;
import java.util.regex.Matcher;
import java.util.regex.Pattern;

/** The public face, the constants, and the rules of LANGUAGE.md that can be seen from the text or the class. */
final class LanguageTest {
    private static final String[] FACE = {"write 1", "wipe 0", "fault 0", "lay 0", "raise 3", "light 2", "shades 1",
        "undo 0", "cell 3", "flow 3", "basin 2", "contrast 2", "best 1", "turn 0", "shade 1", "error 1", "level 2",
        "why 2", "draw 2", "rub 1", "hatch 0", "stroke 2", "whose 2", "count 1"};
    private static final String[] RULED_OUT = {"\\bthrow\\b", "\\bthrows\\b", "\\btry\\b", "\\bcatch\\b",
        "\\bsynchronized\\b", "\\bassert\\b", "->", "::", "\\w+Exact\\b", "\\bpackage\\b", "\\bimport\\b", "\\bprotected\\b",
        "\\bObject\\b", "\\bSystem\\.(?!arraycopy)\\w+", "\\bstatic\\s*\\{", "\\bnative\\b", "\\bvolatile\\b",
        "\\b(?:Integer|Long)\\.M\\w+", "@\\w+", "\\bhashCode\\b", "\\btoString\\b", "\\bdouble\\b", "\\bfloat\\b"};

    private static final Due due = new Due();

    public static void main(String[] args) throws IOException {
        constants();
        face();
        nested();
        String code = code();
        for (String word : RULED_OUT) {
            Matcher found = Pattern.compile(word).matcher(code);
            due.holds("ruled out: " + word, !found.find());
        }
        methodsAreShort(code);
        callsMakeNothing(code);
        due.end();
    }

    private static void constants() {
        due.is("BAD", HillStrokes.BAD, -1);
        due.is("NO", HillStrokes.NO, -2);
        due.is("FULL", HillStrokes.FULL, -3);
        due.is("NONE", HillStrokes.NONE, -4);
        due.is("ZERO", HillStrokes.ZERO, 100);
        Set<String> seen = new TreeSet<>();
        for (Field field : HillStrokes.class.getDeclaredFields()) {
            int m = field.getModifiers();
            if (!Modifier.isPrivate(m)) {
                seen.add(field.getName());
                due.holds(field + " is no constant", Modifier.isPublic(m) && Modifier.isStatic(m) && Modifier.isFinal(m));
            }
            due.holds(field + " is static and not final", !Modifier.isStatic(m) || Modifier.isFinal(m));
        }
        due.holds("the constants are " + seen, seen.equals(Set.of("BAD", "NO", "FULL", "NONE", "ZERO")));
    }

    private static void face() {
        due.holds("the class is public and final",
            Modifier.isPublic(HillStrokes.class.getModifiers()) && Modifier.isFinal(HillStrokes.class.getModifiers()));
        due.is("constructors", HillStrokes.class.getDeclaredConstructors().length, 1);
        Set<String> names = new TreeSet<>();
        Set<String> seen = new TreeSet<>();
        for (Method method : HillStrokes.class.getDeclaredMethods()) {
            if (!Modifier.isPrivate(method.getModifiers())) {
                due.holds(method + " is public, of int", Modifier.isPublic(method.getModifiers())
                    && !Modifier.isStatic(method.getModifiers()) && method.getReturnType() == int.class);
                seen.add(method.getName() + " " + method.getParameterCount());
                names.add(method.getName());
            }
        }
        due.holds("the face is " + seen, seen.equals(new TreeSet<>(Arrays.asList(FACE))));
        privateNames(HillStrokes.class, names);
        for (Class<?> inside : HillStrokes.class.getDeclaredClasses()) {
            privateNames(inside, names);
        }
    }

    private static void privateNames(Class<?> of, Set<String> names) {
        for (Method method : of.getDeclaredMethods()) {
            boolean ofTheFace = of == HillStrokes.class && Modifier.isPublic(method.getModifiers());
            due.holds(method + " bears a public name", ofTheFace || !names.contains(method.getName()));
            due.holds(method + " takes more than seven", method.getParameterCount() <= 7);
        }
    }

    private static void nested() {
        Class<?>[] inside = HillStrokes.class.getDeclaredClasses();
        due.holds("classes: " + inside.length, inside.length < 12);
        for (Class<?> one : inside) {
            due.holds(one + " is not static", Modifier.isStatic(one.getModifiers()));
            int fields = 0;
            for (Field field : one.getDeclaredFields()) {
                boolean ofClass = Modifier.isStatic(field.getModifiers());
                due.holds(field + " is static and not final", !ofClass || Modifier.isFinal(field.getModifiers()));
                fields += ofClass ? 0 : 1;
            }
            due.holds(one + " has fields " + fields, fields <= 20);
        }
    }

    /** The program without its comments and what stands in its texts. */
    private static String code() throws IOException {
        String text = Files.readString(Path.of("src/main/java/HillStrokes.java"));
        due.holds("signs beyond ASCII", text.chars().allMatch(c -> c < 127));
        return text.replaceAll("(?s)/\\*.*?\\*/", "").replaceAll("//[^\n]*", "").replaceAll("\"[^\"\n]*\"", "\"\"");
    }

    /** The room of a run is small, so objects and rows are made as fields are, and in constructors alone. */
    private static void callsMakeNothing(String code) {
        String constructors = "(?ms)^( +)(public )?(HillStrokes|Past)\\(\\) \\{.*?^\\1\\}";
        String fields = "(?m)^ +(private )?final [\\w\\[\\]]+ \\w+ = new [^;]*;";
        String rest = code.replaceAll(constructors, "").replaceAll(fields, "");
        due.holds("something is made in a call", !Pattern.compile("\\bnew\\b|\\bclone\\b|StringBuilder").matcher(rest).find());
    }

    /** A method begins with a line that ends in ") {" at the depth of a class and ends with its brace. */
    private static void methodsAreShort(String code) {
        Matcher method = Pattern.compile("(?ms)^( {4}| {8})[a-z][^\n;=]*\\) \\{\n(.*?)^\\1\\}").matcher(code);
        int methods = 0;
        while (method.find()) {
            if (!method.group().trim().matches("(?s)(if|for|while|switch|return).*")) {
                methods++;
                long lines = method.group().chars().filter(c -> c == '\n').count() + 1;
                due.holds("a method has " + lines + " lines: " + method.group().split("\n")[0].trim(), lines <= 60);
            }
        }
        due.holds("methods were found: " + methods, methods > 60);
    }
}
