import java.io.IOException;
import java.nio.file.Files;
import java.nio.file.Path;
import java.util.ArrayList;
import java.util.Arrays;
import java.util.List;

/** ../shared/DOC.md: what the tests quote of it, and what none of them has quoted yet. */
final class Document {
    static final int PROMISES = 63;
    private static final int TERMS = 0;

    private final String[] sections = new String[PROMISES + 1];
    private final boolean[][] quoted = new boolean[PROMISES + 1][];

    Document() {
        String text = read();
        sections[TERMS] = between(text, "\nTasks and resources. ", "\nAhead of the calls");
        for (int promise = 1; promise <= PROMISES; promise++) {
            String start = "## Promise " + promise + ": ";
            String section = between(text, start, promise == PROMISES ? "## Not promised" : "## Promise ");
            // The signature has a test of its own: FaceTests.
            sections[promise] = section.substring(section.indexOf("`: ") + 3);
        }
        for (int section = 0; section <= PROMISES; section++) {
            quoted[section] = new boolean[sections[section].length()];
        }
    }

    private static String read() {
        try {
            return Files.readString(Path.of("../shared/DOC.md"));
        } catch (IOException gone) {
            throw new IllegalStateException(gone);
        }
    }

    private static String between(String text, String start, String end) {
        int from = text.indexOf(start) + start.length();
        return text.substring(from, text.indexOf(end, from));
    }

    /** Whether the sentence stands in the promise or in the terms; if so, it counts as quoted there. */
    boolean quote(int promise, String sentence) {
        return quoteIn(promise, sentence) || quoteIn(TERMS, sentence);
    }

    private boolean quoteIn(int section, String sentence) {
        boolean found = false;
        int at = sections[section].indexOf(sentence);
        while (at >= 0) {
            found = true;
            Arrays.fill(quoted[section], at, at + sentence.length(), true);
            at = sections[section].indexOf(sentence, at + 1);
        }
        return found;
    }

    /** What no test has quoted, but for headings and for arguments that are only said to be numbers of something. */
    List<String> unquoted() {
        List<String> left = new ArrayList<>();
        for (int section = 0; section <= PROMISES; section++) {
            for (String line : unquotedText(section).split("[\n\u0000]+")) {
                boolean plain = line.matches("- `\\w+`: number of a (task|resource)");
                if (line.replaceAll("[^a-z]", "").length() > 0 && !plain && !isHeading(line)) {
                    left.add((section == TERMS ? "Terms: " : "Promise " + section + ": ") + line);
                }
            }
        }
        return left;
    }

    private String unquotedText(int section) {
        StringBuilder text = new StringBuilder(sections[section]);
        for (int index = 0; index < quoted[section].length; index++) {
            if (quoted[section][index]) {
                text.setCharAt(index, '\u0000');
            }
        }
        return text.toString();
    }

    private static boolean isHeading(String line) {
        return line.matches("(Days|Links|Dates without resource limits|Schedule|Texts|Errors|Undo)\\. ")
            || line.matches("The constants: ");
    }
}
