import java.io.IOException;
import java.nio.file.Files;
import java.nio.file.Path;

/** Counts the answers that are not the ones that are due, each under the sentence of the document that asks for it. */
final class Due {
    private static final Path DOCUMENT = Path.of("../shared/DOC.md");

    private static String document = "";
    private static String sentence = "";
    private static int asked = 0;
    private static int wrong = 0;

    private Due() {
    }

    /** What the next answers are due by; it must stand in the document, so that no test outlives its sentence. */
    static void says(String quote) {
        if (document.isEmpty()) {
            document = folded(read());
        }
        sentence = quote;
        is("the document says so", document.contains(folded(quote)), true);
    }

    static void is(String call, long got, long want) {
        is(call, String.valueOf(got), String.valueOf(want));
    }

    static void is(String call, boolean got, boolean want) {
        is(call, got ? 1 : 0, want ? 1 : 0);
    }

    static void is(String call, String got, String want) {
        asked++;
        if (!got.equals(want)) {
            wrong++;
            System.out.println((sentence.isEmpty() ? "" : "\"" + sentence + "\": ")
                    + call + " answered " + got + ", due is " + want);
        }
    }

    /** To be called last: ends the program with 1 if an answer was wrong, or none was looked at. */
    static void close() {
        System.out.println(asked + " answers looked at, " + wrong + " not as due");
        if (wrong != 0 || asked == 0) {
            System.exit(1);
        }
    }

    private static String folded(String text) {
        return text.replaceAll("\\s+", " ").trim();
    }

    private static String read() {
        try {
            return Files.readString(DOCUMENT);
        } catch (IOException e) {
            System.out.println("no document: " + e);
            return " ";
        }
    }
}
