import java.io.IOException;
import java.nio.charset.StandardCharsets;
import java.nio.file.Files;
import java.nio.file.Path;
import java.util.LinkedHashMap;
import java.util.Map;
import java.util.regex.Matcher;
import java.util.regex.Pattern;

/** The document by its headings, and which of its words a test has quoted. */
final class Document {
    /** Words by which a sentence names a boundary: a refusal, a range, a limit, an emptiness, a choice among like ones. */
    private static final Pattern BOUNDARY = Pattern.compile("-\\d+|\\d+ \\.\\. \\d+|\\b(BAD|NONE|STATE|FULL|NO|none|no|neither"
        + "|least|lesser|less|most|greater|more|first|last|above|below|beyond|further|cut|empty|missing|gone|other|others"
        + "|else|only|alone|like|lowest|too|bits|wrapping|round|within|far|ahead|changes?)\\b");

    private final Map<String, String> sections = new LinkedHashMap<>();
    private final Map<String, boolean[]> quoted = new LinkedHashMap<>();

    Document(Path file) throws IOException {
        String heading = "";
        for (String line : Files.readAllLines(file, StandardCharsets.ISO_8859_1)) {
            if (line.startsWith("## ")) {
                heading = line.substring(3).replaceAll("^(Promise \\d+):.*", "$1");
                sections.put(heading, "");
            } else if (!heading.isEmpty() && !line.startsWith("```")) {
                sections.merge(heading, line + "\n", String::concat);
            }
        }
        sections.forEach((h, text) -> quoted.put(h, new boolean[text.length()]));
    }

    int promises() {
        return (int) sections.keySet().stream().filter(h -> h.startsWith("Promise ")).count();
    }

    /** How often the sentence stands under the heading; from then on its words are quoted. */
    int quote(String heading, String sentence) {
        String text = sections.getOrDefault(heading, "");
        int times = 0;
        for (int at = text.indexOf(sentence); at >= 0; at = text.indexOf(sentence, at + 1)) {
            times++;
            for (int k = at; k < at + sentence.length(); k++) {
                quoted.get(heading)[k] = true;
            }
        }
        return times;
    }

    /** Prints each boundary in the terms and the promises that nothing has quoted: how many. */
    int unquoted() {
        int many = 0;
        for (Map.Entry<String, String> section : sections.entrySet()) {
            if (!section.getKey().matches("Terms|Promise \\d+")) {
                continue;
            }
            String text = section.getValue();
            Matcher boundary = BOUNDARY.matcher(text);
            while (boundary.find()) {
                if (!quoted.get(section.getKey())[boundary.start()] && !isApart(text, boundary.start())) {
                    many++;
                    System.out.println("no test of " + section.getKey() + ": .. "
                        + text.substring(Math.max(0, boundary.start() - 30), Math.min(text.length(), boundary.end() + 30))
                            .replace('\n', ' ') + " ..");
                }
            }
        }
        return many;
    }

    /** A call's own line, and what stands ahead of the calls, of which the terms tell last, name no boundary. */
    private static boolean isApart(String text, int place) {
        int apart = text.indexOf("Ahead of the calls");
        return apart >= 0 && place >= apart || place < text.indexOf("`: ");
    }
}
