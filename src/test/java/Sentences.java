import java.io.IOException;
import java.io.UncheckedIOException;
import java.nio.file.Files;
import java.nio.file.Path;

/** Due answers, each under the words of the document that ask for it; the words are looked up there. */
final class Sentences {
    /** In place of a promise's number: the words stand ahead of the promises, under 'What it is' or 'Terms'. */
    static final int TERMS = 0;
    private static final int PROMISES = 33;

    private final Check check = new Check();
    private final String document;
    private final boolean[] quoted = new boolean[PROMISES + 1];
    private String words = "";

    Sentences() {
        try {
            document = Files.readString(Path.of("../shared/DOC.md"));
        } catch (IOException e) {
            throw new UncheckedIOException(e);
        }
    }

    /** The answers that follow are due by these words of a promise. */
    void of(int promise, String words) {
        this.words = promise + " \"" + words + "\": ";
        quoted[promise] = true;
        check.due(this.words + "stands there", part(promise).contains(words) ? 1 : 0, 1);
    }

    private String part(int promise) {
        int from = promise == TERMS ? 0 : document.indexOf("## Promise " + promise + ":");
        int to = promise == PROMISES ? document.indexOf("## Not promised") : document.indexOf("## Promise " + (promise + 1) + ":");
        return from < 0 || to < from ? "" : document.substring(from, to);
    }

    void due(String call, long got, long want) {
        check.due(words + call, got, want);
    }

    void end(int firstPromise, int lastPromise) {
        for (int promise = firstPromise; promise <= lastPromise; promise++) {
            check.due("sentences of promise " + promise + " are tested", quoted[promise] ? 1 : 0, 1);
        }
        check.end();
    }
}
