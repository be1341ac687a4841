import java.io.IOException;
import java.nio.file.Files;
import java.nio.file.Path;
import java.util.LinkedHashMap;
import java.util.Map;
import java.util.TreeSet;

/**
 * The document, as far as the edge tests say its sentences: each of them says first which one it holds, in the
 * document's own words and under its heading. In the end each sentence must have been said by some test.
 */
final class Doc {
    private static final Path FILE = Path.of("../shared/DOC.md");
    private static final Map<String, String> TEXTS = new LinkedHashMap<>();
    // The places in a heading's text at which its sentences begin; those that no test has said yet.
    private static final Map<String, TreeSet<Integer>> UNSAID = new LinkedHashMap<>();
    private static final Map<String, TreeSet<Integer>> BEGINNINGS = new LinkedHashMap<>();
    private static String sentence = "";

    private Doc() {
    }

    static {
        try {
            read();
        } catch (IOException e) {
            System.out.println("Doc: " + FILE + " can't be read, so what the tests say of it is not judged");
        }
    }

    private static void read() throws IOException {
        String heading = "";
        for (String line : Files.readString(FILE).split("\n")) {
            if (line.startsWith("#")) {
                heading = line.replaceFirst("^#+ ", "").replaceFirst(":.*", "");
            } else if (isToBeSaid(heading) || line.startsWith("An object is used for at most")) {
                addLine(heading, line.replaceFirst("^- ", "").replace("`", "").trim());
            }
        }
    }

    private static boolean isToBeSaid(String heading) {
        switch (heading) {
            case "Nodes":
            case "Evaluation":
            case "Passes":
            case "Needs":
            case "Exceptions":
                return true;
            default:
                return heading.startsWith("Promise ");
        }
    }

    private static void addLine(String heading, String line) {
        for (String unit : line.split("(?<=[.;]) (?:- )?|(?<=:) (?=\\()")) {
            // The face's order of methods is no sentence that a test could hold.
            if (unit.isEmpty() || unit.startsWith("Ahead of the calls")) {
                continue;
            }
            String before = TEXTS.getOrDefault(heading, "");
            UNSAID.computeIfAbsent(heading, h -> new TreeSet<>()).add(before.length());
            BEGINNINGS.computeIfAbsent(heading, h -> new TreeSet<>()).add(before.length());
            TEXTS.put(heading, before + unit + " ");
        }
    }

    /** What follows holds these words of the document. */
    static void says(String heading, String words) {
        sentence = heading + ": " + words;
        if (TEXTS.isEmpty()) {
            return;
        }
        int from = TEXTS.getOrDefault(heading, "").indexOf(words);
        Check.same("the document says '" + sentence + "'", from >= 0, true);
        if (from >= 0) {
            int first = BEGINNINGS.get(heading).floor(from);
            UNSAID.get(heading).subSet(first, from + words.length()).clear();
        }
    }

    /** The sentence that is held now. */
    static String sentence() {
        return sentence;
    }

    static void allIsSaid() {
        for (String heading : UNSAID.keySet()) {
            for (int from : UNSAID.get(heading)) {
                Integer next = BEGINNINGS.get(heading).higher(from);
                String text = TEXTS.get(heading);
                String unit = text.substring(from, next == null ? text.length() : next);
                Check.same("no test says '" + heading + ": " + unit + "'", false, true);
            }
        }
    }
}
