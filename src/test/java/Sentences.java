import java.io.IOException;
import java.nio.file.Files;
import java.nio.file.Path;
import java.util.ArrayList;
import java.util.List;
import java.util.Set;
import java.util.TreeSet;
import java.util.regex.Pattern;

/** Which sentence of the document a test is for, so that none is quoted wrongly, asked for in vain, or forgotten. */
final class Sentences {
    private static final int PROMISES = 47;
    private static final Pattern EDGE = Pattern.compile("Throws|NONE|REFUSED|TEXT_ERROR|false|\\d|negative|any number"
            + "|least|lowest|greatest|fewest|latest|the same|nothing|without|undone|stays|late|alone|last");
    private static final String HEADING = "#.*|\\W*|[A-Z]+\\.|- \\w+:";
    private static final List<Set<String>> QUOTED = new ArrayList<>();
    private static String open = "";
    private static int askedBefore = 0;

    private Sentences() {
    }

    /** Begins the test of a sentence of a promise, or of what stands ahead of them if promise is 0. */
    static void test(int promise, String words) {
        close();
        while (QUOTED.size() <= PROMISES) {
            QUOTED.add(new TreeSet<>());
        }
        open = (promise == 0 ? "Description" : "Promise " + promise) + ", \"" + words + "\"";
        if (!QUOTED.get(promise).add(words)) {
            Check.wrong(open + " has two tests");
        }
        Check.about = open + ": ";
    }

    private static void close() {
        if (!open.isEmpty() && Check.asked() == askedBefore) {
            Check.wrong(open + " has a test that asks nothing");
        }
        open = "";
        askedBefore = Check.asked();
        Check.about = "";
    }

    /** All that is quoted stands in the document, and every clause there that names an edge is quoted. */
    static void end() throws IOException {
        close();
        for (int promise = 0; promise <= PROMISES; promise++) {
            String part = part(promise);
            Set<String> quoted = QUOTED.get(promise);
            for (String words : quoted) {
                if (!part.contains(words)) {
                    Check.wrong("not in promise " + promise + ": " + words);
                }
            }
            for (String clause : part.split("\n\\s*|(?<=[.;:])\\s+")) {
                boolean needless = promise > 0 && !EDGE.matcher(clause).find() || clause.matches(HEADING);
                if (!needless && quoted.stream().noneMatch(words -> words.contains(clause) || clause.contains(words))) {
                    Check.wrong("promise " + promise + " has no test of: " + clause);
                }
            }
        }
    }

    private static String part(int promise) throws IOException {
        String document = Files.readString(Path.of("../shared/DOC.md"));
        document = document.replaceFirst("(?s)```.*?```", "").replace("`", "");
        String head = promise == 0 ? "An object is used" : "## Promise " + promise + ": ";
        String behind = promise == 0 ? "The constants:" : "\n## ";
        int begin = document.indexOf(head);
        String part = document.substring(begin, document.indexOf(behind, begin + 1));
        return promise == 0 ? part : part.replaceFirst(".*\n+.*\n", "");
    }
}
