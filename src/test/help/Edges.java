import java.io.IOException;
import java.nio.file.Files;
import java.nio.file.Path;

/**
 * What the tests of edges have in common. Each of their tests begins with the words of the document that it is a
 * test of; with -Ddoc=../shared/DOC.md it is looked up, too, whether these words stand there.
 */
final class Edges {
    static final int NONE = -1, UNKNOWN = -101, OUTSIDE = -102, STATE = -103, FULL = -104;
    static final int LOW = Integer.MIN_VALUE, HIGH = Integer.MAX_VALUE;
    /** Two kings and two stockings, each king's own. */
    static final String SMALL = "k300,k800;3000,8000";
    /** As many of both as can be. */
    static final String LARGE = "k500,l521,y742,r713;4000,5001,6210,5211,9430,0431";

    private static final String DOCUMENT = document();
    private static String sentence = "";
    private static int sentences = 0;
    private static int wrong = 0;

    private Edges() {
    }

    /** What follows is a test of these words; where is "What it is", "Terms" or "Promise n". */
    static void says(String where, String words) {
        sentence = where + ", \"" + words + "\"";
        sentences++;
        if (!DOCUMENT.isEmpty() && !section(where).contains(words)) {
            wrong++;
            System.out.println("the document does not say: " + sentence);
        }
    }

    static void due(String call, long got, long want) {
        if (got != want) {
            wrong++;
            System.out.println(sentence + ": " + call + " answered " + got + ", due is " + want);
        }
    }

    /** The call is not refused: no answer but a refusal is less than -100. */
    static void taken(String call, long got) {
        due(call + " is taken", got <= UNKNOWN ? got : 0, 0);
    }

    static StockingLine typed(String text) {
        StockingLine x = new StockingLine();
        type(x, text);
        return x;
    }

    static void type(StockingLine x, String text) {
        for (int i = 0; i < text.length(); i++) {
            x.letter(text.charAt(i));
        }
    }

    static StockingLine of(String text) {
        StockingLine x = typed(text);
        taken("line() of " + text, x.line());
        return x;
    }

    static void read(StockingLine x, String text) {
        x.blank();
        type(x, text);
        taken("line() of " + text, x.line());
    }

    static void dropAll(StockingLine x) {
        for (int stocking = 0; stocking < x.count(1); stocking++) {
            x.drop(stocking);
        }
    }

    static void end() {
        System.out.println(wrong == 0 ? sentences + " sentences hold" : wrong + " answers are not as due");
        if (wrong != 0) {
            System.exit(1);
        }
    }

    private static String document() {
        String file = System.getProperty("doc");
        if (file == null) {
            return "";
        }
        try {
            return Files.readString(Path.of(file)).replaceAll("\\s+", " ");
        } catch (IOException e) {
            throw new IllegalStateException("there is no document " + file, e);
        }
    }

    private static String section(String where) {
        String head = "## " + where + (where.startsWith("Promise") ? ":" : "");
        int from = DOCUMENT.indexOf(head);
        if (from < 0) {
            return "";
        }
        int to = DOCUMENT.indexOf(" ## ", from + head.length());
        return DOCUMENT.substring(from, to < 0 ? DOCUMENT.length() : to);
    }
}
