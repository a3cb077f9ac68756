import java.lang.annotation.ElementType;
import java.lang.annotation.Retention;
import java.lang.annotation.RetentionPolicy;
import java.lang.annotation.Target;

/**
 * The document's own words that a test would fail by if they were broken. The test's name begins with where they
 * stand: p4.. is "Promise 4", terms.. is "Terms", is.. is "What it is".
 */
@Retention(RetentionPolicy.RUNTIME)
@Target(ElementType.METHOD)
@interface Says {
    String[] value();
}
