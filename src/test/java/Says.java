import java.lang.annotation.ElementType;
import java.lang.annotation.Retention;
import java.lang.annotation.RetentionPolicy;
import java.lang.annotation.Target;

/** The sentence of the document, or the part of it, whose edges a test looks at; it must stand there so. */
@Retention(RetentionPolicy.RUNTIME)
@Target(ElementType.METHOD)
@interface Says {
    String value();

    /** The promise whose line has the sentence; 0: the terms have it. */
    int promise() default 0;
}
