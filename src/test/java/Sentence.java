import java.lang.annotation.ElementType;
import java.lang.annotation.Retention;
import java.lang.annotation.RetentionPolicy;
import java.lang.annotation.Target;

/** The sentence of the document that a test holds the class to. DocumentTest looks whether it stands there. */
@Retention(RetentionPolicy.RUNTIME)
@Target(ElementType.METHOD)
@interface Sentence {
    /** The promise whose calls are asked; the test's name begins with it, too. */
    int promise();

    /** The words, as they stand in the document. */
    String says();

    /** The heading that they stand under, where it is not the promise's own. */
    String under() default "";
}
