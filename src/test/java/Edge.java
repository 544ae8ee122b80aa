import java.lang.annotation.ElementType;
import java.lang.annotation.Retention;
import java.lang.annotation.RetentionPolicy;
import java.lang.annotation.Target;

/** Tells what a test is for: a part of ../shared/DOC.md, and the words there that it fails by if they do not hold. */
@Retention(RetentionPolicy.RUNTIME)
@Target(ElementType.METHOD)
@interface Edge {
    /** 'What it is', 'Terms 1' to 'Terms 3', or a promise's heading, as 'Promise 2: feed'. */
    String of();

    /** The words, as they stand in that part. */
    String says();
}
