import java.io.IOException;
import java.lang.reflect.Field;
import java.lang.reflect.Method;
import java.lang.reflect.Modifier;
import java.nio.file.Files;
import java.nio.file.Path;
import java.util.Arrays;
import java.util.Set;
import java.util.TreeSet;
import java.util.regex.Matcher;
import java.util.regex.Pattern;
import java.util.stream.Collectors;

/** The public face, the constants, and the rules of LANGUAGE.md that can be seen from the text or the class. */
final class LanguageTest {
    private static final String[] RULED_OUT = {"\\bthrow\\b", "\\bthrows\\b", "\\btry\\b", "\\bcatch\\b",
        "\\bsynchronized\\b", "\\bassert\\b", "->", "::", "\\w+Exact\\b", "\\bpackage\\b", "\\bimport\\b", "\\bprotected\\b",
        "\\bObject\\b", "\\bSystem\\.(?!arraycopy)\\w+", "\\bstatic\\s*\\{", "\\bnative\\b", "\\bvolatile\\b",
        "\\b(?:Integer|Long)\\.M\\w+", "@\\w+", "\\bhashCode\\b", "\\btoString\\b", "\\bdouble\\b", "\\bfloat\\b"};

    private static final Due due = new Due();

    public static void main(String[] args) throws IOException {
        constants();
        face();
        nested();
        String code = code();
        for (String word : RULED_OUT) {
            Matcher found = Pattern.compile(word).matcher(code);
            due.holds("ruled out: " + word, !found.find());
        }
        methodsAreShort(code);
        callsMakeNothing(code);
        due.end();
    }

    private static void constants() {
        due.is("BAD", HillStrokes.BAD, -1);
        due.is("NO", HillStrokes.NO, -2);
        due.is("FULL", HillStrokes.FULL, -3);
        due.is("NONE", HillStrokes.NONE, -4);
        due.is("ZERO", HillStrokes.ZERO, 100);
        Set<String> seen = new TreeSet<>();
        for (Field field : HillStrokes.class.getDeclaredFields()) {
            int m = field.getModifiers();
            if (!Modifier.isPrivate(m)) {
                seen.add(field.getName());
                due.holds(field + " is no constant", Modifier.isPublic(m) && Modifier.isStatic(m) && Modifier.isFinal(m));
            }
            due.holds(field + " is static and not final", !Modifier.isStatic(m) || Modifier.isFinal(m));
        }
        due.holds("the constants are " + seen, seen.equals(Set.of("BAD", "NO", "FULL", "NONE", "ZERO")));
    }

    /** The calls as the document's face has them, told by their names and the types of what they take. */
    private static Set<String> faceOfTheDocument() throws IOException {
        String text = Files.readString(Path.of("../shared/DOC.md"));
        int begin = text.indexOf("## The public face");
        Matcher call = Pattern.compile("public int (\\w+)\\(([^)]*)\\);").matcher(text.substring(begin, text.indexOf("## Terms")));
        Set<String> calls = new TreeSet<>();
        while (call.find()) {
            calls.add(call.group(1) + "(" + call.group(2).replaceAll(" \\w+(?=,|$)", "") + ")");
        }
        return calls;
    }

    private static String told(Method method) {
        return Arrays.stream(method.getParameterTypes()).map(Class::getName)
            .collect(Collectors.joining(", ", method.getName() + "(", ")"));
    }

    private static void face() throws IOException {
        due.holds("the class is public and final",
            Modifier.isPublic(HillStrokes.class.getModifiers()) && Modifier.isFinal(HillStrokes.class.getModifiers()));
        due.is("constructors", HillStrokes.class.getDeclaredConstructors().length, 1);
        due.is("public constructors", HillStrokes.class.getConstructors().length, 1);
        Set<String> names = new TreeSet<>();
        Set<String> seen = new TreeSet<>();
        for (Method method : HillStrokes.class.getDeclaredMethods()) {
            if (!Modifier.isPrivate(method.getModifiers())) {
                due.holds(method + " is public, of int", Modifier.isPublic(method.getModifiers())
                    && !Modifier.isStatic(method.getModifiers()) && method.getReturnType() == int.class);
                seen.add(told(method));
                names.add(method.getName());
            }
        }
        due.is("calls of the face", seen.size(), 24);
        due.holds("the face is " + seen, seen.equals(faceOfTheDocument()));
        privateNames(HillStrokes.class, names);
        for (Class<?> inside : HillStrokes.class.getDeclaredClasses()) {
            privateNames(inside, names);
        }
    }

    private static void privateNames(Class<?> of, Set<String> names) {
        for (Method method : of.getDeclaredMethods()) {
            boolean ofTheFace = of == HillStrokes.class && Modifier.isPublic(method.getModifiers());
            due.holds(method + " bears a public name", ofTheFace || !names.contains(method.getName()));
            due.holds(method + " takes more than seven", method.getParameterCount() <= 7);
        }
    }

    private static void nested() {
        Class<?>[] inside = HillStrokes.class.getDeclaredClasses();
        due.holds("classes: " + inside.length, inside.length < 12);
        for (Class<?> one : inside) {
            due.holds(one + " is not static", Modifier.isStatic(one.getModifiers()));
            int fields = 0;
            for (Field field : one.getDeclaredFields()) {
                boolean ofClass = Modifier.isStatic(field.getModifiers());
                due.holds(field + " is static and not final", !ofClass || Modifier.isFinal(field.getModifiers()));
                fields += ofClass ? 0 : 1;
            }
            due.holds(one + " has fields " + fields, fields <= 20);
        }
    }

    /** The program without its comments and what stands in its texts. */
    private static String code() throws IOException {
        String text = Files.readString(Path.of("src/main/java/HillStrokes.java"));
        due.holds("signs beyond ASCII", text.chars().allMatch(c -> c < 127));
        return text.replaceAll("(?s)/\\*.*?\\*/", "").replaceAll("//[^\n]*", "").replaceAll("\"[^\"\n]*\"", "\"\"");
    }

    /** The room of a run is small, so objects and rows are made as fields are, and in constructors alone. */
    private static void callsMakeNothing(String code) {
        String constructors = "(?ms)^( +)(public )?(HillStrokes|Past)\\(\\) \\{.*?^\\1\\}";
        String fields = "(?m)^ +(private )?final [\\w\\[\\]]+ \\w+ = new [^;]*;";
        String rest = code.replaceAll(constructors, "").replaceAll(fields, "");
        due.holds("something is made in a call", !Pattern.compile("\\bnew\\b|\\bclone\\b|StringBuilder").matcher(rest).find());
    }

    /** A method begins with a line that ends in ") {" at the depth of a class and ends with its brace. */
    private static void methodsAreShort(String code) {
        Matcher method = Pattern.compile("(?ms)^( {4}| {8})[a-z][^\n;=]*\\) \\{\n(.*?)^\\1\\}").matcher(code);
        int methods = 0;
        while (method.find()) {
            if (!method.group().trim().matches("(?s)(if|for|while|switch|return).*")) {
                methods++;
                long lines = method.group().chars().filter(c -> c == '\n').count() + 1;
                due.holds("a method has " + lines + " lines: " + method.group().split("\n")[0].trim(), lines <= 60);
            }
        }
        due.holds("methods were found: " + methods, methods > 60);
    }
}
