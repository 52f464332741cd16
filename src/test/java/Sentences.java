import java.io.IOException;
import java.io.UncheckedIOException;
import java.nio.file.Files;
import java.nio.file.Path;
import java.util.TreeSet;

/**
 * Answers that are due by one sentence of ../shared/DOC.md at a time. The words are looked up there, so that no test
 * outlives its sentence; it is run from the project's folder.
 */
final class Sentences {
    private static final String DOC = "../shared/DOC.md";
    private static final String FIRST_PROMISE = "## Promise 1:";

    private final Due due;
    private final String doc;
    private final TreeSet<Integer> promises = new TreeSet<>();
    private String words = "";

    Sentences(String about) {
        due = new Due(about);
        try {
            doc = oneLine(Files.readString(Path.of(DOC)));
        } catch (IOException e) {
            throw new UncheckedIOException(e);
        }
    }

    private static String oneLine(String text) {
        return text.replaceAll("\\s+", " ");
    }

    /** What follows is due by these words, which stand ahead of the promises. */
    void terms(String quoted) {
        words = quoted;
        due.holds("the document says '" + quoted + "'", doc.substring(0, doc.indexOf(FIRST_PROMISE)).contains(quoted));
    }

    /** What follows is due by these words of a promise. */
    void promise(int n, String quoted) {
        words = quoted;
        promises.add(n);
        int from = doc.indexOf("## Promise " + n + ":");
        int to = doc.indexOf("## ", from + 1);
        due.holds("promise " + n + " says '" + quoted + "'", from >= 0 && doc.substring(from, to).contains(quoted));
    }

    void is(String call, long got, long want) {
        due.is("'" + words + "': " + call, got, want);
    }

    void bad(String call, long got) {
        is(call, got, Due.BAD);
    }

    void unchanged(TwoMetals x, String before) {
        String after = stateOf(x);
        due.holds("'" + words + "': nothing changes, but it was " + before + " and is " + after, after.equals(before));
    }

    /** All that can be asked of an object but for what it keeps. */
    static String stateOf(TwoMetals x) {
        StringBuilder told = new StringBuilder();
        for (int n = 0; n < 8; n++) {
            if (x.realm(n, 0) >= 0) {
                told.append(" realm ").append(n);
                for (int what = 0; what < 8; what++) {
                    told.append(' ').append(x.realm(n, what));
                }
                told.append(' ').append(x.ends(n, 0)).append(' ').append(x.ends(n, 1));
            }
        }
        told.append(" market");
        for (int what = 0; what < 4; what++) {
            told.append(' ').append(x.market(what));
        }
        told.append(" count");
        for (int what = 0; what < 5; what++) {
            told.append(' ').append(x.count(what));
        }
        return told.append(" fault ").append(x.fault()).toString();
    }

    void quotesAllPromises(int last) {
        for (int n = 1; n <= last; n++) {
            due.holds("promise " + n + " is quoted", promises.contains(n));
        }
        due.holds("there is no promise behind", !doc.contains("## Promise " + (last + 1) + ":"));
    }

    void finish() {
        due.finish();
    }
}
