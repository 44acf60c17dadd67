import java.lang.annotation.Retention;
import java.lang.annotation.RetentionPolicy;

/** Names a test: the promise's number, and the sentence of the document (of its head or of Terms), word by word. */
@Retention(RetentionPolicy.RUNTIME)
@interface Sentence {
    int promise();

    String text();
}
