import java.io.IOException;
import java.nio.file.Files;
import java.nio.file.Path;
import java.util.ArrayList;
import java.util.Arrays;
import java.util.List;
import java.util.TreeMap;
import java.util.TreeSet;
import java.util.regex.Matcher;
import java.util.regex.Pattern;
import java.util.stream.Stream;

/**
 * The tests of boundary cases quote the sentence that they are of. Each quote must stand in the document, where it
 * is said to stand, and all that the terms and the promises say must be quoted by one of them.
 */
final class QuoteTest {
    private static final Pattern QUOTE = Pattern.compile("Check\\.(?:sentence\\(|promise\\((\\d+), )\"((?:[^\"\\\\]|\\\\.)*)\"\\);");

    public static void main(String[] args) throws IOException {
        String doc = Files.readString(Path.of("../shared/DOC.md"));
        TreeMap<Integer, TreeSet<String>> quotes = quotes();
        int promises = doc.indexOf("## Promise 1:");
        int rest = doc.indexOf("## Not promised");
        Check.due("the document has promises", promises > 0 && rest > promises, true);
        section(0, doc.substring(0, promises) + doc.substring(rest), terms(doc.substring(0, promises)), quotes);
        String[] parts = doc.substring(promises, rest).split("(?m)^## Promise \\d+: .*$");
        Check.due("promises", parts.length - 1, 32);
        for (int number = 1; number < parts.length; number++) {
            // A promise begins with the call in signs of its own.
            String text = parts[number].trim().replaceFirst("(?s)^`[^`]*`: ", "");
            section(number, text, text, quotes);
        }
        Check.end();
    }

    /** What the terms say: all from 'Terms' on, without marks and the beginnings of sections. */
    private static String terms(String text) {
        return text.substring(text.indexOf("## Terms") + 8).replace("```text", "").replace("```", "")
                .replaceAll("==== \\d\\.( Of a WORD of a TELLER of a THING:)?", "");
    }

    private static TreeMap<Integer, TreeSet<String>> quotes() throws IOException {
        List<Path> files = new ArrayList<>();
        try (Stream<Path> all = Files.list(Path.of("src/test/java"))) {
            all.filter(p -> p.toString().endsWith("Test.java")).forEach(files::add);
        }
        TreeMap<Integer, TreeSet<String>> quotes = new TreeMap<>();
        for (Path file : files) {
            Matcher m = QUOTE.matcher(Files.readString(file));
            while (m.find()) {
                int number = m.group(1) == null ? 0 : Integer.parseInt(m.group(1));
                quotes.computeIfAbsent(number, n -> new TreeSet<>()).add(m.group(2));
            }
        }
        return quotes;
    }

    private static String plain(String text) {
        return text.replaceAll("\\s+", " ").trim();
    }

    private static void section(int number, String text, String toCover, TreeMap<Integer, TreeSet<String>> quotes) {
        String where = number == 0 ? "the terms" : "promise " + number;
        String all = plain(toCover);
        boolean[] quoted = new boolean[all.length()];
        for (String quote : quotes.getOrDefault(number, new TreeSet<>())) {
            Check.due("'" + quote + "' stands in " + where, plain(text).contains(plain(quote)), true);
            for (int at = all.indexOf(plain(quote)); at >= 0; at = all.indexOf(plain(quote), at + 1)) {
                Arrays.fill(quoted, at, at + plain(quote).length(), true);
            }
        }
        StringBuilder left = new StringBuilder();
        for (int i = 0; i < all.length(); i++) {
            left.append(quoted[i] ? '|' : all.charAt(i));
        }
        for (String part : left.toString().split("[|]+")) {
            Check.due("'" + part + "' of " + where + " isn't quoted", part.matches(".*[A-Za-z0-9].*"), false);
        }
    }
}
