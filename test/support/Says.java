import java.lang.annotation.Retention;
import java.lang.annotation.RetentionPolicy;

/** The words of ../shared/DOC.md that a boundary case is a test of, and the section in which they stand. */
@Retention(RetentionPolicy.RUNTIME)
@interface Says {
    String in();

    String value();
}
