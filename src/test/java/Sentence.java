import java.lang.annotation.ElementType;
import java.lang.annotation.Retention;
import java.lang.annotation.RetentionPolicy;
import java.lang.annotation.Target;

/** Stands at a test of its own for words of the document. */
@Retention(RetentionPolicy.RUNTIME)
@Target(ElementType.METHOD)
@interface Sentence {
    /** The heading of the document's section. */
    String in();

    /** The words as the section has them; how they are broken into lines plays no part. */
    String words();
}
