import java.io.IOException;
import java.nio.file.Files;
import java.nio.file.Path;
import java.util.ArrayList;
import java.util.HashSet;
import java.util.LinkedHashMap;
import java.util.List;
import java.util.Map;
import java.util.Set;

/**
 * Compares answers with those that a sentence of the document asks for. Each test of a boundary
 * case names the section and the words of its sentence with says(); the words are looked up in the
 * document, and in the end each sentence must have been named by a test, or be told to name no
 * boundary case.
 */
final class Boundary {
    private static final Path DOCUMENT = Path.of("..", "shared", "DOC.md");

    private final Check check = new Check();
    private final Map<String, List<String>> sections = new LinkedHashMap<>();
    private final Set<String> named = new HashSet<>();
    private boolean documentIsThere = false;

    Boundary() throws IOException {
        if (Files.isReadable(DOCUMENT)) {
            documentIsThere = true;
            readSentences(Files.readAllLines(DOCUMENT));
        } else {
            System.out.println(DOCUMENT + " is not there: the words of tests are not looked up in it");
        }
    }

    private void readSentences(List<String> lines) {
        String section = "";
        boolean code = false;
        for (String line : lines) {
            if (line.startsWith("```")) {
                code = !code;
            } else if (line.startsWith("## ")) {
                section = line.substring(3).replaceAll(":.*", "");
            } else if (line.matches("[A-Z][A-Z ,]+")) {
                section = line;
            } else if (!code && !line.isBlank() && !line.startsWith("# ")) {
                List<String> all = sections.computeIfAbsent(section, unseen -> new ArrayList<>());
                all.addAll(split(line.replaceFirst("^(- |\\d\\. )", "")));
            }
        }
    }

    /** A line that tells answers is split at each of them, others at the ends of sentences. */
    private static List<String> split(String line) {
        return List.of(line.split(line.startsWith("Returns ") ? "; " : "(?<=[.)]) (?=[A-Z(])"));
    }

    /** Names the sentences that the next answers are about, by words that stand in them. */
    void says(String section, String... words) {
        check.about(section + ", '" + String.join("', '", words) + "'");
        for (String part : words) {
            nameSentence(section, part);
        }
    }

    /** Tells that a sentence names no boundary case. */
    void noBoundaryIn(String section, String... words) {
        check.about(section);
        for (String part : words) {
            nameSentence(section, part);
        }
    }

    private void nameSentence(String section, String words) {
        boolean found = false;
        for (String sentence : sections.getOrDefault(section, List.of())) {
            if (sentence.contains(words)) {
                named.add(section + ": " + sentence);
                found = true;
            }
        }
        check.holds("the document says '" + words + "' there", found || !documentIsThere);
    }

    void due(String call, long got, long want) {
        check.due(call, got, want);
    }

    void holds(String what, boolean condition) {
        check.holds(what, condition);
    }

    /** Fails for each sentence that no test has named. */
    void end(String name) {
        check.about("sentences of the document");
        for (Map.Entry<String, List<String>> section : sections.entrySet()) {
            for (String sentence : section.getValue()) {
                String whole = section.getKey() + ": " + sentence;
                check.holds("'" + whole + "' is named by a test", named.contains(whole));
            }
        }
        System.out.println(name + ": " + named.size() + " sentences of the document are named");
        check.end(name);
    }
}
