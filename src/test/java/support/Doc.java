import java.io.IOException;
import java.nio.file.Files;
import java.nio.file.Path;

/** The sentences of the document: a test names the one that it holds, and it must stand there word for word. */
final class Doc {
    static final int NONE = -1, UNKNOWN = -1000001, OUTSIDE = -1000002, NOT = -1000003, FULL = -1000004;
    static final int LOW = Integer.MIN_VALUE, HIGH = Integer.MAX_VALUE;

    private static final String TEXT = read();
    private static final int PROMISES = 33;
    private static final int[] NAMED = new int[PROMISES + 1];
    private static String sentence = "";

    private Doc() {
    }

    private static String read() {
        try {
            return Files.readString(Path.of("../shared/DOC.md")).replaceAll("\\s+", " ");
        } catch (IOException e) {
            return "";
        }
    }

    private static String between(String first, String next) {
        int from = TEXT.indexOf(first);
        int to = from < 0 ? -1 : TEXT.indexOf(next, from + first.length());
        return from < 0 ? "" : to < 0 ? TEXT.substring(from) : TEXT.substring(from, to);
    }

    /** The checks that follow hold these words of a promise. */
    static void promise(int n, String words) {
        NAMED[n]++;
        name("promise " + n, words, between("## Promise " + n + ": ", " ## "));
    }

    /** The checks that follow hold these words of the terms: 1 to 4 as they are numbered, 0 for what stands ahead. */
    static void term(int n, String words) {
        String section = n == 0 ? between("# ChoiceBook", "======== 1")
            : between("======== " + n, n == 4 ? " Ahead of the calls" : "======== " + (n + 1));
        name("term " + n, words, section);
    }

    private static void name(String where, String words, String section) {
        sentence = where + ", '" + words + "'";
        Check.due(sentence + " stands in the document", section.contains(words) ? 1 : 0, 1);
    }

    static void due(String call, long got, long want) {
        Check.due(sentence + ": " + call, got, want);
    }

    static void all(String call, long want, long... got) {
        for (int i = 0; i < got.length; i++) {
            due(call + " no. " + i, got[i], want);
        }
    }

    /** Ends the test; each of these promises must have been named. */
    static void end(int first, int last) {
        for (int n = first; n <= last; n++) {
            Check.due("promise " + n + " is named", NAMED[n] > 0 ? 1 : 0, 1);
        }
        Check.end();
    }
}
