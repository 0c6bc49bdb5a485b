import java.lang.annotation.Retention;
import java.lang.annotation.RetentionPolicy;

/** The words of the document that the test of an edge is about. */
@Retention(RetentionPolicy.RUNTIME)
@interface Says {
    String[] value();
}
