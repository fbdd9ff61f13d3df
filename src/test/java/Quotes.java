import java.util.ArrayList;
import java.util.List;
import java.util.Map;

/** The words of the document that tests rest on. */
final class Quotes {
    private final List<String[]> quotes = new ArrayList<>();

    void add(String part, String words) {
        quotes.add(new String[] {part, words});
    }

    /** The quotes that are not in the document, and the words of it that no test quotes. */
    List<String> faults(Map<String, String> document) {
        List<String> faults = new ArrayList<>();
        for (String[] quote : quotes) {
            if (!document.getOrDefault(quote[0], "").contains(quote[1])) {
                faults.add("has not, in " + quote[0] + ": " + quote[1]);
            }
        }
        for (String part : document.keySet()) {
            String rest = rest(part, document.get(part));
            if (!rest.isEmpty()) {
                faults.add("has more, in " + part + ": " + rest);
            }
        }
        return faults;
    }

    private String rest(String part, String text) {
        char[] left = text.toCharArray();
        for (String[] quote : quotes) {
            int from = quote[0].equals(part) ? text.indexOf(quote[1]) : -1;
            if (from >= 0) {
                java.util.Arrays.fill(left, from, from + quote[1].length(), ' ');
            }
        }
        return String.valueOf(left).replaceAll(" +", " ").trim();
    }
}
