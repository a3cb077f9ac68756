import java.io.IOException;
import java.nio.file.Files;
import java.nio.file.Path;
import java.util.ArrayList;
import java.util.BitSet;
import java.util.LinkedHashMap;
import java.util.List;
import java.util.Map;
import java.util.regex.Matcher;
import java.util.regex.Pattern;

/** The document by its sections, and which of their words have been quoted by a test. */
final class Document {
    /** Where one of these stands, a sentence names a bound or a refused call. */
    private static final Pattern BOUND = Pattern.compile("\\b(BAD|NO_KEY|NOT|FULL|STATE|WAITS|\\d+|at most|at first"
            + "|at once|or more|the latest|the first|the last|never|above|below|less|least|lost|full|wraps?|fewer"
            + "|none|nobody|nothing|no more|once|already|cut|empty|stays?|alone|single|not as many)\\b");

    private final Map<String, String> sections = new LinkedHashMap<>();
    private final Map<String, BitSet> quoted = new LinkedHashMap<>();

    Document(Path path) throws IOException {
        for (String part : Files.readString(path).split("(?m)^## ")) {
            int end = Math.max(0, part.indexOf('\n'));
            String heading = part.substring(0, end).replaceFirst(":.*", "");
            if (heading.equals("What it is") || heading.equals("Terms") || heading.startsWith("Promise ")) {
                sections.put(heading, plain(part.substring(end)));
                quoted.put(heading, new BitSet());
            }
        }
    }

    private static String plain(String text) {
        return text.replaceAll("```\\w*|======== \\d", " ").replaceAll("\\s+", " ");
    }

    /** Whether the words stand in the section. */
    boolean quote(String section, String words) {
        String text = sections.getOrDefault(section, "");
        int from = text.indexOf(words);
        if (from < 0 || words.isEmpty()) {
            return false;
        }
        for (; from >= 0; from = text.indexOf(words, from + 1)) {
            quoted.get(section).set(from, from + words.length());
        }
        return true;
    }

    int sections() {
        return sections.size();
    }

    /** The bounds that no quote goes over, each with the words around it. */
    List<String> notQuoted() {
        List<String> left = new ArrayList<>();
        sections.forEach((section, text) -> {
            Matcher bound = BOUND.matcher(text);
            while (bound.find()) {
                if (quoted.get(section).nextClearBit(bound.start()) < bound.end()) {
                    int from = Math.max(0, bound.start() - 30);
                    int to = Math.min(text.length(), bound.end() + 30);
                    left.add(section + ": '.. " + text.substring(from, to) + " ..'");
                }
            }
        });
        return left;
    }
}
