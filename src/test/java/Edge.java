import java.lang.annotation.Retention;
import java.lang.annotation.RetentionPolicy;

/** Marks the test of one boundary case, with the section and the words of the document that it is about. */
@Retention(RetentionPolicy.RUNTIME)
@interface Edge {
    String in();

    String says();
}
