import java.io.IOException;
import java.io.UncheckedIOException;
import java.nio.file.Files;
import java.nio.file.Path;
import java.util.ArrayList;
import java.util.LinkedHashMap;
import java.util.List;
import java.util.Map;

/**
 * Tests that each stand for a sentence of the document, or a clause of one. The words that a test
 * quotes have to stand in the section that it names; and at the end each sentence has to be quoted.
 */
final class Sentences {
    private static final Map<String, List<String>> SECTIONS = read(Path.of("../shared/DOC.md"));
    private static final Map<String, List<String>> QUOTED = new LinkedHashMap<>();
    /** Sections that tell no more than other ones do, or nothing that a test could see. */
    private static final List<String> UNTOLD = List.of("TwigPatch", "The public face", "Not promised");

    private Sentences() {
    }

    /** A test of its own for these words, which stand in that section. */
    static void holds(String section, String words, Runnable test) {
        String plain = plain(words);
        String text = String.join(" ", SECTIONS.getOrDefault(section, List.of()));
        boolean isThere = SECTIONS.isEmpty() || text.contains(plain);
        Check.is("the words of " + section + " are there: " + plain, isThere, true);
        QUOTED.computeIfAbsent(section, s -> new ArrayList<>()).add(plain);
        Check.named(section + ", \"" + plain + "\": ", test);
    }

    static void promise(int number, String words, Runnable test) {
        String head = "Promise " + number + ":";
        String found = head;
        for (String section : SECTIONS.keySet()) {
            found = section.startsWith(head) ? section : found;
        }
        holds(found, words, test);
    }

    /** Sees that no sentence was forgotten. */
    static void end() {
        for (String section : SECTIONS.keySet()) {
            List<String> quoted = QUOTED.getOrDefault(section, List.of());
            for (String clause : SECTIONS.get(section)) {
                boolean isQuoted = UNTOLD.contains(section) || clause.startsWith("Ahead of the calls");
                for (String quote : quoted) {
                    isQuoted |= quote.contains(clause) || clause.contains(quote);
                }
                Check.is("a test for " + section + ", \"" + clause + "\"", isQuoted, true);
            }
        }
    }

    private static String plain(String words) {
        return words.replace("`", "").replaceAll("\\s+", " ").trim();
    }

    /** The clauses of each section, by its heading; none, if the document is not at hand, and then none is looked for. */
    private static Map<String, List<String>> read(Path path) {
        Map<String, List<String>> sections = new LinkedHashMap<>();
        if (!Files.exists(path)) {
            System.out.println(path + " is not at hand: the words that the tests quote are not looked for");
            return sections;
        }
        List<String> clauses = new ArrayList<>();
        boolean isCode = false;
        for (String line : lines(path)) {
            isCode ^= line.startsWith("```");
            if (line.startsWith("#")) {
                clauses = new ArrayList<>();
                sections.put(line.replaceAll("^#+ ", ""), clauses);
            } else if (!isCode && !line.isBlank() && !line.startsWith("```")) {
                // The head of a method tells nothing that FaceTest does not see.
                String told = line.replaceAll("^`\\w+[ (].*?\\)( throws [^`]*)?`: ", "").replaceAll("^(- |\\d\\. )", "");
                for (String clause : told.split("(?<=[.;]) (?=[A-Z(a-z])")) {
                    clauses.add(plain(clause));
                }
            }
        }
        return sections;
    }

    private static List<String> lines(Path path) {
        try {
            return Files.readAllLines(path);
        } catch (IOException e) {
            throw new UncheckedIOException(e);
        }
    }
}
