import java.lang.annotation.ElementType;
import java.lang.annotation.Retention;
import java.lang.annotation.RetentionPolicy;
import java.lang.annotation.Target;

/** A test of one boundary case, and the words of ../shared/DOC.md that name it. */
@Retention(RetentionPolicy.RUNTIME)
@Target(ElementType.METHOD)
@interface Edge {
    /** The promise in which the words stand; 0 for the terms before them. */
    int promise();

    String says();
}
