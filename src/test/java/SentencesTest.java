import java.io.IOException;
import java.nio.file.Files;
import java.nio.file.Path;
import java.util.ArrayList;
import java.util.List;
import java.util.regex.Matcher;
import java.util.regex.Pattern;
import java.util.stream.Collectors;
import java.util.stream.Stream;

/** Every promise of the document, and every sentence of its terms that has a number in it, is quoted by a bounds test. */
public final class SentencesTest {
    private static final Pattern QUOTE = Pattern.compile("Due\\.says\\(((?:\"(?:[^\"\\\\]|\\\\.)*\"\\s*\\+?\\s*)+)\\)");
    private static final Pattern PROMISE = Pattern.compile("## Promise (\\d+): ([^`]*) `[^`]*`: ([^#]*)");

    public static void main(String[] args) throws IOException {
        String document = folded(Files.readString(Path.of("../shared/DOC.md")));
        List<String> quotes = quotes();
        Matcher promise = PROMISE.matcher(document);
        int promises = 0;
        while (promise.find()) {
            promises++;
            String text = promise.group(3);
            Due.is("promise " + promise.group(1) + ", " + promise.group(2) + ": is quoted",
                    quotes.stream().anyMatch(text::contains), true);
            refusals(promise.group(2), text, quotes);
        }
        Due.is("promises", promises, 34);
        terms(document, quotes);
        Due.close();
    }

    /** What a call answers when it is refused stands in a quote. */
    private static void refusals(String name, String text, List<String> quotes) {
        for (String part : text.split("(?<=[;.]) ")) {
            if (part.contains("NONE") || part.contains("nothing happens")) {
                Due.is(name + ", '" + part + "': is quoted",
                        quotes.stream().anyMatch(q -> text.contains(q) && (q.contains(bare(part)) || part.contains(q))), true);
            }
        }
    }

    private static void terms(String document, List<String> quotes) {
        String terms = document.substring(document.indexOf("## Terms") + 8, document.indexOf("The constants:"));
        for (String part : terms.replaceAll("```(text)?|==== [IV]+\\.", "").split("(?<=[;.]) |\\| ")) {
            if (part.matches(".*\\d.*")) {
                Due.is("'" + part + "': is quoted",
                        quotes.stream().anyMatch(q -> q.contains(bare(part)) || part.contains(q)), true);
            }
        }
    }

    private static String bare(String part) {
        return part.trim().replaceAll("[;:.]$", "");
    }

    private static List<String> quotes() throws IOException {
        List<Path> tests;
        try (Stream<Path> files = Files.list(Path.of("src/test/java"))) {
            tests = files.filter(f -> f.toString().endsWith("BoundsTest.java")).sorted().collect(Collectors.toList());
        }
        List<String> quotes = new ArrayList<>();
        for (Path test : tests) {
            Matcher m = QUOTE.matcher(Files.readString(test));
            while (m.find()) {
                quotes.add(folded(m.group(1).replaceAll("\"\\s*\\+\\s*\"", "").replaceAll("^\"|\"\\s*$", "")));
            }
        }
        return quotes;
    }

    private static String folded(String text) {
        return text.replaceAll("\\s+", " ").trim();
    }
}
