import java.io.IOException;
import java.nio.file.Files;
import java.nio.file.Path;
import java.util.Map;
import java.util.TreeMap;

/** The document's own words, so that no test names a sentence that is not there. Run from the project's folder. */
final class Doc {
    private static final Path PLACE = Path.of("../shared/DOC.md");

    /** Each promise's section; under 0 all that stands ahead of them. */
    private final Map<Integer, String> sections = new TreeMap<>();

    Doc() {
        sections.put(0, "");
        for (String section : whole().split("\n## ")) {
            int promise = section.startsWith("Promise ") ? numberOf(section) : 0;
            sections.merge(promise, plain(section), (before, more) -> before + " " + more);
        }
    }

    private static String whole() {
        try {
            return Files.exists(PLACE) ? Files.readString(PLACE) : "";
        } catch (IOException e) {
            throw new IllegalStateException("the document can't be read", e);
        }
    }

    private static int numberOf(String section) {
        return Integer.parseInt(section.substring("Promise ".length(), section.indexOf(':')));
    }

    private static String plain(String section) {
        return section.replaceAll("```\\w*", " ").replaceAll("\\s+", " ");
    }

    /** Whether the words stand in the promise, or in the terms that all promises share. */
    boolean says(int promise, String words) {
        return sections.getOrDefault(promise, "").contains(words) || sections.get(0).contains(words);
    }

    /** A checkout without the document beside it can still be tested. */
    boolean isThere() {
        return sections.size() > 1;
    }
}
