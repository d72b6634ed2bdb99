import java.io.IOException;
import java.nio.file.Files;
import java.nio.file.Path;
import java.util.ArrayList;
import java.util.List;

/**
 * Runs that are each written for a sentence of the document, or a piece of one, which they name word for word.
 * It then finds the sentences for which there is no run, and the runs whose sentence the document doesn't have.
 */
final class Sentences {
    private static final String TERMS = "Terms";
    // What stands ahead of a promise's first sentence.
    private static final String CALL = "^(int \\w+|void \\w+|MeshLodger)\\([^)]*\\)[^:]*: ";
    // Headings, and the constants, which are FaceTest's.
    private static final String NO_CASE = "#.*|Failures, time, moves|Ahead of the calls(?!.*;).*|The constants:.*|PLAIN = 0.*";

    private final Runs runs;
    private final List<String> sections = new ArrayList<>();
    private final List<String> quotes = new ArrayList<>();

    Sentences(Runs runs) {
        this.runs = runs;
    }

    void ofTerms(String quote, String... calls) {
        says(TERMS, quote, calls);
    }

    void ofPromise(int promise, String quote, String... calls) {
        says("Promise " + promise, quote, calls);
    }

    void says(String section, String quote, String... calls) {
        sections.add(section);
        quotes.add(quote);
        runs.run(section + ", \"" + quote + "\"", calls);
    }

    void holdAgainst(Path document) throws IOException {
        String section = "";
        boolean[] found = new boolean[quotes.size()];
        for (String row : Files.readAllLines(document)) {
            String text = row.replace("`", "").replaceAll("^- ", "").trim();
            if (text.startsWith("## ")) {
                section = text.replaceAll("^## |:.*", "");
            }
            for (String sentence : text.replaceAll(CALL, "").split("(?<=\\.\\)?) (?=[A-Z(])")) {
                boolean has = mark(section, sentence, found);
                if (!has && namesACase(section, sentence)) {
                    runs.fault(section + ": no run for \"" + sentence + "\"");
                }
            }
        }
        for (int quote = 0; quote < found.length; quote++) {
            if (!found[quote]) {
                runs.fault(sections.get(quote) + " does not say \"" + quotes.get(quote) + "\"");
            }
        }
    }

    private boolean mark(String section, String sentence, boolean[] found) {
        boolean has = false;
        for (int quote = 0; quote < found.length; quote++) {
            if (sections.get(quote).equals(section) && sentence.contains(quotes.get(quote))) {
                found[quote] = true;
                has = true;
            }
        }
        return has;
    }

    private static boolean namesACase(String section, String sentence) {
        boolean isOfThem = section.equals(TERMS) || section.startsWith("Promise");
        return isOfThem && !sentence.isEmpty() && !sentence.matches(NO_CASE);
    }
}
