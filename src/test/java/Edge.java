import java.lang.annotation.Retention;
import java.lang.annotation.RetentionPolicy;

/**
 * A test of one boundary case: the promises by whose calls it is asked, and the
 * document's own words that would be broken. EdgesTest runs it.
 */
@Retention(RetentionPolicy.RUNTIME)
@interface Edge {
    int[] promise();

    String words();
}
