import java.lang.annotation.ElementType;
import java.lang.annotation.Retention;
import java.lang.annotation.RetentionPolicy;
import java.lang.annotation.Target;

/** Which words of the document a test holds: of a promise, of 'Terms' (0), or of 'What it is' (-1). */
@Retention(RetentionPolicy.RUNTIME)
@Target(ElementType.METHOD)
@interface Holds {
    int WHAT_IT_IS = -1;
    int TERMS = 0;

    int promise();

    String says();
}
