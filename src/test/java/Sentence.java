import java.lang.annotation.ElementType;
import java.lang.annotation.Retention;
import java.lang.annotation.RetentionPolicy;
import java.lang.annotation.Target;

/** Which sentence of ../shared/DOC.md a test is for. */
@Retention(RetentionPolicy.RUNTIME)
@Target(ElementType.METHOD)
@interface Sentence {
    /** The heading that it stands under: "Promise 3", "Description" or "What it is". */
    String in();

    /** The sentence, or the part of it that names the case. */
    String says();
}
