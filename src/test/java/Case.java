import java.lang.annotation.ElementType;
import java.lang.annotation.Retention;
import java.lang.annotation.RetentionPolicy;
import java.lang.annotation.Target;

/** A test of its own: its class names the promise, its method the case, and it tells the words kept. */
@Retention(RetentionPolicy.RUNTIME)
@Target(ElementType.METHOD)
@interface Case {
    String value();
}
