import java.io.IOException;
import java.nio.file.Files;
import java.nio.file.Path;
import java.util.Arrays;

/**
 * What the tests of boundary sentences share: each test first says the sentence, in the document's own words, and
 * then gives the answers that are due at its edges.
 */
final class Bounds {
    static final int BAD = -1, NO = -2, FULL = -3, NONE = -4;

    private static final Path DOCUMENT = Path.of("../shared/DOC.md");

    private final Check check = new Check();
    private final String document = document();
    private String sentence = null;
    private int answers = 0;

    private static String document() {
        try {
            return Files.isReadable(DOCUMENT) ? oneLine(Files.readString(DOCUMENT)) : null;
        } catch (IOException e) {
            return null;
        }
    }

    private static String oneLine(String text) {
        return text.replaceAll("\\s+", " ");
    }

    /** The sentence that is tested from here on; it has to stand in the document (where that can be read). */
    void sentence(String words) {
        close();
        sentence = words;
        answers = 0;
        check.holds("the document says: " + words, document == null || document.contains(oneLine(words)));
    }

    private void close() {
        check.holds("'" + sentence + "' is tested", sentence == null || answers > 0);
    }

    void due(String call, long got, long want) {
        answers++;
        check.due("'" + sentence + "': " + call, got, want);
    }

    void finish() {
        close();
        check.finish();
    }

    static RebusSigns told(String text) {
        RebusSigns x = new RebusSigns();
        tell(x, text);
        return x;
    }

    static void tell(RebusSigns x, String text) {
        x.wipe();
        for (int i = 0; i < text.length(); i++) {
            x.write(text.charAt(i));
        }
    }

    /** A new object with a text laid, and signs carved. */
    RebusSigns laid(String text, int... signs) {
        RebusSigns x = told(text);
        check.holds("'" + sentence + "': it is laid: " + text, x.lay() > 0);
        carve(x, signs);
        return x;
    }

    static void carve(RebusSigns x, int... signs) {
        for (int s : signs) {
            x.carve(s);
        }
    }

    void dueFault(String text, int want) {
        due("fault() of " + text, told(text).fault(), want);
    }

    /** A row of signs, asked as the whole inscription. */
    void dueRead(RebusSigns x, int bits, int... row) {
        while (x.count(4) > 0) {
            x.chip();
        }
        carve(x, row);
        due("read of " + Arrays.toString(row), x.read(0, row.length), bits);
    }

    void dueLeast(RebusSigns x, int w, int leftOut, int... row) {
        due("least(" + w + ", -1)", x.least(w, -1), row.length);
        due("least(" + w + ", -2)", x.least(w, -2), leftOut);
        for (int k = 0; k < row.length; k++) {
            due("least(" + w + ", " + k + ")", x.least(w, k), row[k]);
        }
        due("least(" + w + ", " + row.length + ")", x.least(w, row.length), NONE);
    }

    void dueNoLeast(RebusSigns x, int w) {
        for (int k = -2; k <= 1; k++) {
            due("least(" + w + ", " + k + ")", x.least(w, k), NONE);
        }
        due("writings(" + w + ")", x.writings(w), 0);
    }

    /** The reading, told as cut, word, cut, word, .. */
    void dueReading(RebusSigns x, int... cutsAndWords) {
        int n = cutsAndWords.length / 2;
        due("reading(-1)", x.reading(-1), n);
        for (int k = 0; k < n; k++) {
            due("cut(" + k + ")", x.cut(k), cutsAndWords[2 * k]);
            due("reading(" + k + ")", x.reading(k), cutsAndWords[2 * k + 1]);
        }
        due("reading(" + n + ")", x.reading(n), NONE);
        due("cut(" + n + ")", x.cut(n), NONE);
    }

    static String repeat(String item, int times) {
        return item.repeat(times);
    }
}
