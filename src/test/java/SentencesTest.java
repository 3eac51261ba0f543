import java.io.IOException;
import java.nio.file.DirectoryStream;
import java.nio.file.Files;
import java.nio.file.Path;
import java.util.regex.Matcher;
import java.util.regex.Pattern;

/** Each sentence of the document's terms and promises is quoted by a test of its own (Check.sentence, Check.promise). */
public final class SentencesTest {
    private static final String LITERAL = "\"(?:[^\"\\\\]|\\\\.)*\"";
    private static final Pattern QUOTE = Pattern.compile("Check\\.(?:sentence\\(|promise\\((\\d+),)\\s*(" + LITERAL
            + "(?:\\s*\\+\\s*" + LITERAL + ")*)\\);");
    private static final Pattern PROMISE = Pattern.compile("## Promise (\\d+):");
    // What ends a sentence, or a part of one that can be told on its own.
    private static final Pattern PART = Pattern.compile("[^.;:]*[.;:]+(?= |$)|[^.;:]+$|[.;:]");

    private final String text;
    private final boolean[] quoted;

    private SentencesTest(String text) {
        this.text = text;
        quoted = new boolean[text.length()];
        // Heads, faces of methods, and the marks of text blocks and sections are no sentences.
        for (String not : new String[] {"## [^`]*?`[^`]*`:", "## Terms", "```(text)?", "==== \\d\\."}) {
            Matcher m = Pattern.compile(not).matcher(text);
            while (m.find()) {
                mark(m.start(), m.end());
            }
        }
    }

    public static void main(String[] args) throws IOException {
        String document = Check.document();
        SentencesTest terms = new SentencesTest(part(document, "## Terms", "## Promise 1:"));
        SentencesTest[] promises = new SentencesTest[45];
        Matcher heads = PROMISE.matcher(document);
        int found = 0;
        while (heads.find()) {
            int n = Integer.parseInt(heads.group(1));
            found++;
            promises[n] = new SentencesTest(part(document, "## Promise " + n + ":",
                    n == 44 ? "## Not promised" : "## Promise " + (n + 1) + ":"));
        }
        Check.part("the promises");
        Check.due("how many", found, 44);
        int quotes = 0;
        try (DirectoryStream<Path> tests = Files.newDirectoryStream(Path.of("src/test/java"), "*Test.java")) {
            for (Path test : tests) {
                Matcher m = QUOTE.matcher(Files.readString(test));
                while (m.find()) {
                    quotes++;
                    String words = m.group(2).replaceAll("\"\\s*\\+\\s*\"", "").replaceAll("^\"|\"$", "");
                    (m.group(1) == null ? terms : promises[Integer.parseInt(m.group(1))]).quote(words);
                }
            }
        }
        Check.yes("quotes were found: " + quotes, quotes > 100);
        terms.tell("the terms");
        for (int n = 1; n <= 44; n++) {
            promises[n].tell("promise " + n);
        }
        Check.end();
    }

    private static String part(String document, String from, String until) {
        int begin = document.indexOf(from);
        int end = document.indexOf(until);
        return begin < 0 || end < begin ? "" : document.substring(begin, end).strip();
    }

    private void mark(int from, int to) {
        for (int i = from; i < to; i++) {
            quoted[i] = true;
        }
    }

    private void quote(String words) {
        for (int at = text.indexOf(words); at >= 0; at = text.indexOf(words, at + 1)) {
            mark(at, at + words.length());
        }
    }

    private void tell(String name) {
        Check.part(name);
        Matcher m = PART.matcher(text);
        while (m.find()) {
            boolean some = m.group().chars().noneMatch(Character::isLetterOrDigit);
            for (int i = m.start(); i < m.end(); i++) {
                some |= quoted[i] && Character.isLetterOrDigit(text.charAt(i));
            }
            Check.yes("no test quotes \"" + m.group().strip() + "\"", some);
        }
    }
}
