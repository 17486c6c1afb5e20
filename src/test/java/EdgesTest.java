import java.io.IOException;
import java.lang.reflect.InvocationTargetException;
import java.lang.reflect.Method;
import java.util.Arrays;
import java.util.Comparator;

/**
 * The boundary cases that the document names, a test for each, beside the words
 * that it quotes. It fails, too, if words are quoted that do not stand in the
 * document, or if the document has words that no test quotes.
 */
final class EdgesTest {
    private static final Class<?>[] PLACES = {GroundEdges.class, SlopeEdges.class, ShadeEdges.class, StrokeEdges.class,
        ChangeEdges.class, Promises1To9.class, Promises10To18.class, Promises19To25.class};

    private static final int[] testsOfPromise = new int[Document.PROMISES + 1];
    private static int passed = 0;
    private static int failed = 0;

    public static void main(String[] args) throws IOException, IllegalAccessException {
        Document document = new Document();
        for (Class<?> place : PLACES) {
            Method[] methods = place.getDeclaredMethods();
            Arrays.sort(methods, Comparator.comparing(Method::getName));
            for (Method method : methods) {
                Edge edge = method.getAnnotation(Edge.class);
                if (edge != null) {
                    tell(name(method, edge), outcome(method, edge, document));
                }
            }
        }
        everyWordIsQuoted(document);
        System.out.println(passed + " passed, " + failed + " failed");
        if (failed > 0) {
            System.exit(1);
        }
    }

    private static String name(Method method, Edge edge) {
        return "promise " + Arrays.toString(edge.promise()) + " \"" + edge.words() + "\": " + method.getName();
    }

    /** Empty, if the test passes. */
    private static String outcome(Method method, Edge edge, Document document) throws IllegalAccessException {
        for (int promise : edge.promise()) {
            testsOfPromise[promise]++;
        }
        if (!document.quote(edge.promise(), edge.words())) {
            return "the document does not say so";
        }
        Due due = new Due();
        try {
            method.invoke(null, due);
        } catch (InvocationTargetException thrown) {
            return "threw " + thrown.getCause();
        }
        return due.outcome();
    }

    private static void tell(String name, String outcome) {
        if (outcome.isEmpty()) {
            passed++;
        } else {
            failed++;
            System.out.println(name + "\n    " + outcome);
        }
    }

    private static void everyWordIsQuoted(Document document) {
        for (int part = 0; part <= Document.PROMISES; part++) {
            String name = part == 0 ? "the terms" : "promise " + part;
            String left = document.notQuoted(part);
            tell(name + " in the document", left.isEmpty() ? "" : "no test quotes: " + left);
            if (part > 0) {
                tell(name + " in the tests", testsOfPromise[part] > 0 ? "" : "no test");
            }
        }
    }
}
