import java.io.IOException;
import java.nio.file.Files;
import java.nio.file.Path;
import java.util.ArrayList;
import java.util.List;
import java.util.Map;
import java.util.TreeMap;
import java.util.regex.Matcher;
import java.util.regex.Pattern;

/** The document's sections, so that tests can stand under its own words. Section 0 is the description. */
final class DocWords {
    private static final Path DOCUMENT = Path.of("../shared/DOC.md");
    private static final Pattern REFUSAL = Pattern.compile("\\b(?:UNKNOWN|OUTSIDE|STATE|FULL|NONE) if [^;.]*");

    private final Map<Integer, String> sections = new TreeMap<>();
    private final Map<Integer, List<String>> quotes = new TreeMap<>();

    DocWords() throws IOException {
        if (!Files.isReadable(DOCUMENT)) {
            return;
        }
        int number = 0;
        for (String line : Files.readAllLines(DOCUMENT)) {
            Matcher promise = Pattern.compile("## Promise (\\d+): .*").matcher(line);
            if (promise.matches()) {
                number = Integer.parseInt(promise.group(1));
            } else if (line.startsWith("## Not promised")) {
                break;
            }
            sections.merge(number, oneBlank(line), (before, more) -> before + " " + more);
        }
    }

    boolean isThere() {
        return !sections.isEmpty();
    }

    void quote(int number, String words) {
        quotes.computeIfAbsent(number, key -> new ArrayList<>()).add(oneBlank(words));
    }

    /** What is quoted, but does not stand in the document. */
    List<String> wrongQuotes() {
        List<String> result = new ArrayList<>();
        quotes.forEach((number, all) -> {
            for (String words : all) {
                if (!oneBlank(sections.getOrDefault(number, "")).contains(words)) {
                    result.add(number + ": " + words);
                }
            }
        });
        return result;
    }

    /** The words of the promises that say when an error code or NONE is due, and are not quoted. */
    List<String> missingRefusals() {
        List<String> result = new ArrayList<>();
        sections.forEach((number, text) -> {
            Matcher refusals = REFUSAL.matcher(number == 0 ? "" : oneBlank(text));
            while (refusals.find()) {
                String due = upToBracket(refusals.group()).trim();
                if (quotes.getOrDefault(number, List.of()).stream().noneMatch(quote -> quote.contains(due))) {
                    result.add(number + ": " + due);
                }
            }
        });
        return result;
    }

    /** The numbers of the promises of which nothing is quoted. */
    List<Integer> missingSections() {
        return sections.keySet().stream().filter(number -> !quotes.containsKey(number)).toList();
    }

    /** Ends where a bracket closes that was open before. */
    private static String upToBracket(String words) {
        int open = 0;
        for (int i = 0; i < words.length(); i++) {
            open += words.charAt(i) == '(' ? 1 : words.charAt(i) == ')' ? -1 : 0;
            if (open < 0) {
                return words.substring(0, i);
            }
        }
        return words;
    }

    private static String oneBlank(String text) {
        return text.replaceAll("\\s+", " ").trim();
    }
}
