import java.nio.charset.StandardCharsets;
import java.nio.file.Files;
import java.nio.file.Path;
import java.util.ArrayList;
import java.util.LinkedHashMap;
import java.util.List;
import java.util.Map;

/**
 * The parts of the document that promise something, by their names: "What it is", the paragraphs of "Terms" ("Terms"
 * is the first one), its "Examples", and the promises by their numbers. The public face is told by itself.
 */
final class Document {
    private static final String PROMISE = "## Promise ";
    private static final String[] TERMS = {
        "Players", "Auctions", "Matches", "Raids", "Points", "Empty raids", "All out", "Cards", "Substitutes",
        "Reviews", "Statistics", "Values", "League", "Exceptions",
    };

    private Document() {
    }

    static Map<String, String> read(Path file) throws java.io.IOException {
        Map<String, String> parts = new LinkedHashMap<>();
        String section = "";
        for (String line : Files.readString(file, StandardCharsets.UTF_8).split("\n")) {
            if (line.startsWith("## ")) {
                section = line.startsWith(PROMISE) ? line.substring(PROMISE.length(), line.indexOf(':')) : line.substring(3);
            } else if (section.equals("Terms")) {
                addTerm(parts, line);
            } else if (section.equals("What it is") || !section.isEmpty() && Character.isDigit(section.charAt(0))) {
                parts.merge(section, promised(line), (before, more) -> before + " " + more);
            }
        }
        return parts;
    }

    /** The members of the public face, as the document writes them. */
    static List<String> face(Path file) throws java.io.IOException {
        List<String> members = new ArrayList<>();
        for (String line : Files.readString(file, StandardCharsets.UTF_8).split("\n")) {
            if (line.startsWith("    public ") && line.endsWith(";")) {
                members.add(line.substring(4, line.length() - 1));
            }
        }
        return members;
    }

    private static void addTerm(Map<String, String> parts, String line) {
        if (line.startsWith("Who stands on the mat")) {
            parts.put("Terms", line);
        } else if (line.startsWith("- ")) {
            parts.merge("Examples", line.substring(2), (before, more) -> before + " " + more);
        }
        for (String term : TERMS) {
            if (line.startsWith(term + ". ")) {
                parts.put(term, line.substring(term.length() + 2));
            }
        }
    }

    /** What a line of a promise tells beyond the face; of parameters only those lines that name a range. */
    private static String promised(String line) {
        if (line.startsWith("`")) {
            return line.substring(line.indexOf("`: ") + 3);
        }
        if (line.startsWith("- ")) {
            return line.matches(".*([0-9]|'.').*") ? line.substring(2) : "";
        }
        return line;
    }
}
