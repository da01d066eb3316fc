import java.io.File;
import java.lang.reflect.Method;
import java.util.Arrays;

/** Runs the tests of the edges, and looks whether they quote every sentence of the document's terms and promises. */
final class DocumentTest {
    public static void main(String[] args) throws ReflectiveOperationException {
        String[] files = new File("src/test/java").list((folder, name) -> name.endsWith("EdgesTest.java"));
        Check.due("there are tests of the edges", files != null && files.length > 0, true);
        if (files != null) {
            Arrays.sort(files);
            for (String file : files) {
                Method main = Class.forName(file.replace(".java", "")).getDeclaredMethod("main", String[].class);
                main.setAccessible(true);
                main.invoke(null, (Object) new String[0]);
            }
        }
        if (Check.hasDocument()) {
            allQuoted(Check.unquoted("## Terms", "## Not promised"));
        }
        Check.end();
    }

    private static void allQuoted(String text) {
        Check.due("the document has terms and promises", text.length() > 1000, true);
        for (String piece : sentencesOnly(text).split("\\|+")) {
            Check.due("left unquoted: '" + piece.trim() + "'", piece.matches(".*[a-zA-Z0-9].*"), false);
        }
    }

    /** Without headings, what stands ahead of a promise's own words, and marks. */
    private static String sentencesOnly(String text) {
        return text.replaceAll("## Terms", "|").replaceAll("## Promise \\d+: (A new object|[a-z]+)", "|")
            .replaceAll("```(text)?", "|").replaceAll("`[^`|]*`:", "|").replaceAll("==== \\d\\.", "|");
    }
}
