import java.io.IOException;
import java.nio.charset.StandardCharsets;
import java.nio.file.Files;
import java.nio.file.Path;

/**
 * The document, read along while a test goes: what the test says must stand next there, word by word, and must be
 * held by one answer at least. So no sentence between the first and the last can be left out.
 */
final class Page {
    private static final Path DOCUMENT = Path.of("../shared/DOC.md");

    private final String text;
    private int at;
    private String title = "";
    private String sentence = "";
    private boolean held = true;
    private int passed = 0;
    private int failed = 0;

    /** Begins where these words stand. */
    Page(String first) {
        text = document();
        at = Math.max(0, text.indexOf(first));
    }

    /** Blanks and ends of lines don't count: a sentence may go over several lines. */
    private static String document() {
        try {
            return plain(Files.readString(DOCUMENT, StandardCharsets.UTF_8));
        } catch (IOException e) {
            System.out.println(DOCUMENT + " can't be read: the sentences aren't compared with it");
            return "";
        }
    }

    private static String plain(String words) {
        return words.replaceAll("\\s+", " ").trim();
    }

    /** A title or a sign, which asks nothing. */
    void passes(String words) {
        close();
        goOver(words);
    }

    void titled(String words) {
        passes(words);
        title = words;
    }

    void says(String words) {
        close();
        goOver(words);
        sentence = words;
        held = false;
    }

    /** Words that stand somewhere; the place in the document stays. */
    void quotes(String... parts) {
        sentence = String.join(" .. ", parts);
        for (String part : parts) {
            if (!text.isEmpty() && !text.contains(plain(part))) {
                fail("the document doesn't say: " + part);
            }
        }
    }

    void due(String what, long got, long want) {
        held = true;
        if (got == want) {
            passed++;
        } else {
            fail(what + " answered " + got + ", due is " + want);
        }
    }

    void due(String what, String got, String want) {
        held = true;
        if (got.equals(want)) {
            passed++;
        } else {
            fail(what + " is " + got + ", due is " + want);
        }
    }

    /** Prints what came of it, and ends with 1 if something failed. next: what the document goes on with. */
    void end(String next) {
        close();
        goOver(next);
        if (next.isEmpty() && at < text.length()) {
            fail("the document goes on: " + text.substring(at, Math.min(text.length(), at + 60)));
        }
        endAnywhere();
    }

    void endAnywhere() {
        System.out.println(passed + " passed, " + failed + " failed");
        if (failed != 0) {
            System.exit(1);
        }
    }

    private void close() {
        if (!held) {
            fail("nothing holds it");
        }
        held = true;
    }

    private void goOver(String words) {
        if (text.isEmpty() || words.isEmpty()) {
            return;
        }
        while (at < text.length() && text.charAt(at) == ' ') {
            at++;
        }
        String next = plain(words);
        if (text.startsWith(next, at)) {
            at += next.length();
            return;
        }
        fail("the document doesn't go on with: " + next + " (but with: "
                + text.substring(at, Math.min(text.length(), at + 60)) + ")");
        int later = text.indexOf(next, at);
        at = later < 0 ? at : later + next.length();
    }

    private void fail(String what) {
        failed++;
        System.out.println(title + " \"" + sentence + "\": " + what);
    }
}
