import java.lang.annotation.Retention;
import java.lang.annotation.RetentionPolicy;

/** The words of the document whose boundary a test looks at, and the section they stand in. */
@Retention(RetentionPolicy.RUNTIME)
@interface Sentence {
    String in();

    String words();
}
