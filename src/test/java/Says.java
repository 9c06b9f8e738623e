import java.lang.annotation.ElementType;
import java.lang.annotation.Retention;
import java.lang.annotation.RetentionPolicy;
import java.lang.annotation.Target;

/** The sentence of the document that a test of BoundaryTest holds the program to, as it stands there. */
@Retention(RetentionPolicy.RUNTIME)
@Target(ElementType.METHOD)
@interface Says {
    /** The number of the promise: under whose heading it stands, or, of one under 'Terms', that leans on it. */
    int promise();

    /** Whether it stands under 'Terms' (or ahead of these), not under the promise's own heading. */
    boolean terms() default false;

    String value();
}
