import java.io.IOException;
import java.nio.file.Files;
import java.nio.file.Path;
import java.util.Arrays;
import java.util.NoSuchElementException;

/** What the tests share: a text is fed and told, and answers are held against those that are due. */
final class Check {
    /** What ring() below answers where that of the class throws. */
    static final long NO_INDEX = 1000001;
    static final long NO_ELEMENT = 1000002;

    private static final String NO_DOCUMENT = "?";

    private static int wrong = 0;
    private static int made = 0;
    private static int saidMade = 0;
    private static String said = "";
    private static String document = "";
    private static boolean[] quoted = new boolean[0];

    private Check() {
    }

    /** Answers from here on are looked at for these words, which must stand in the document. */
    static void says(String words) {
        saidEnds();
        readDocument();
        int at = document.indexOf(plain(words));
        if (at < 0 && hasDocument()) {
            wrong++;
            System.out.println("the document doesn't say: " + words);
        }
        for (; at >= 0; at = document.indexOf(plain(words), at + 1)) {
            Arrays.fill(quoted, at, at + plain(words).length(), true);
        }
        said = "[" + words + "] ";
        saidMade = made;
    }

    private static void saidEnds() {
        if (!said.isEmpty() && saidMade == made) {
            wrong++;
            System.out.println(said + "is looked at by no answer");
        }
        said = "";
    }

    private static void readDocument() {
        if (document.isEmpty()) {
            document = plain(documentText());
            quoted = new boolean[document.length()];
        }
    }

    /** Without the document beside the project quotes can't be looked at; the answers are all the same. */
    static boolean hasDocument() {
        readDocument();
        return !document.equals(NO_DOCUMENT);
    }

    /** What no says() has quoted so far of the document from one of its words to another one, gaps as bars. */
    static String unquoted(String from, String to) {
        readDocument();
        StringBuilder left = new StringBuilder();
        for (int i = Math.max(0, document.indexOf(from)); i < document.indexOf(to); i++) {
            left.append(quoted[i] ? '|' : document.charAt(i));
        }
        return left.toString();
    }

    private static String documentText() {
        try {
            return Files.readString(Path.of("../shared/DOC.md"));
        } catch (IOException e) {
            System.out.println("../shared/DOC.md can't be read: no quote of it is looked at");
            return NO_DOCUMENT;
        }
    }

    private static String plain(String text) {
        return text.replaceAll("\\s+", " ").trim();
    }

    /** Feeds a text, filled up with blanks, and tells it: what text() answers. */
    static int tell(EngagedTone x, String text) {
        feed(x, text);
        return x.text(text.length());
    }

    /** Feeds a text, filled up with blanks to twenties: what the last feed() answers. */
    static int feed(EngagedTone x, String text) {
        int has = 0;
        for (int at = 0; at < text.length(); at += 20) {
            has = x.feed(four(text, at), four(text, at + 4), four(text, at + 8), four(text, at + 12),
                four(text, at + 16));
        }
        return has;
    }

    private static int four(String text, int at) {
        int number = 0;
        for (int i = at; i < at + 4; i++) {
            number = number << 8 | (i < text.length() ? text.charAt(i) & 255 : ' ');
        }
        return number;
    }

    /** A new object of which this text, without a fault, is told. */
    static EngagedTone of(String text) {
        EngagedTone x = new EngagedTone();
        if (tell(x, text) < 0) {
            wrong++;
            System.out.println("fault " + x.fault(0) + " at " + x.fault(1) + " in: " + text);
        }
        return x;
    }

    /** The same, and so many quarters went by. */
    static EngagedTone of(String text, int quarters) {
        EngagedTone x = of(text);
        x.go(quarters);
        return x;
    }

    static void due(String call, long got, long want) {
        made++;
        if (got != want) {
            wrong++;
            System.out.println(said + call + " answered " + got + ", due is " + want);
        }
    }

    static void due(String call, boolean got, boolean want) {
        due(call, got ? 1 : 0, want ? 1 : 0);
    }

    /** What ring() answers, or NO_INDEX or NO_ELEMENT if it throws. */
    static long ring(EngagedTone x, int ring, int what) {
        try {
            return x.ring(ring, what);
        } catch (IndexOutOfBoundsException e) {
            return NO_INDEX;
        } catch (NoSuchElementException e) {
            return NO_ELEMENT;
        }
    }

    static void fault(String text, int kind, int place) {
        EngagedTone x = new EngagedTone();
        due("text of '" + text + "'", tell(x, text), -1);
        due("fault(0) of '" + text + "'", x.fault(0), kind);
        due("fault(1) of '" + text + "'", x.fault(1), place);
    }

    /** A fault of this kind at the place that ^ marks. */
    static void faultAt(int kind, String marked) {
        int place = marked.indexOf('^');
        fault(marked.substring(0, place) + marked.substring(place + 1), kind, place);
    }

    static void fine(String text, int lines) {
        EngagedTone x = new EngagedTone();
        due("text of '" + text + "'", tell(x, text), lines);
        due("fault(0) of '" + text + "'", x.fault(0), 0);
        due("fault(1) of '" + text + "'", x.fault(1), -1);
    }

    static void end() {
        saidEnds();
        System.out.println(made + " answers looked at, " + wrong + " not as due");
        if (wrong != 0) {
            System.exit(1);
        }
    }
}
