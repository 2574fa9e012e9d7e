import java.io.IOException;
import java.nio.file.Files;
import java.nio.file.Path;
import java.util.ArrayList;
import java.util.LinkedHashMap;
import java.util.List;
import java.util.Map;

/**
 * Every sentence of the document is quoted by the tests of the edges, where it stands: with tests of its own,
 * or as one that names no boundary case. So no sentence is passed over, and none is tested that isn't there.
 */
public final class DocumentTest {
    private static final Path DOCUMENT = Path.of("../shared/DOC.md");
    /** These say what is free, or repeat as code what other parts say in words. */
    private static final List<String> NOT_LOOKED_AT = List.of("ClauseWatch", "The public face", "Not promised");

    private DocumentTest() {
    }

    public static void main(String[] args) throws IOException {
        if (!Files.exists(DOCUMENT)) {
            System.out.println("DocumentTest: there is no " + DOCUMENT + " to compare the quotes with");
            return;
        }
        List<Sentences.Sentence> quoted = new ArrayList<>(ofNoPromise().all());
        quoted.addAll(EdgesOfTermsTest.sentences().all());
        quoted.addAll(EdgesOfSearchTest.sentences().all());
        quoted.addAll(EdgesOfTextsTest.sentences().all());
        quoted.addAll(EdgesOfChangesTest.sentences().all());
        quoted.addAll(EdgesOfQuestionsTest.sentences().all());
        quoted.addAll(EdgesOfUndoTest.sentences().all());
        compare(parts(Files.readAllLines(DOCUMENT)), quoted);
        Due.end("DocumentTest");
    }

    private static Sentences ofNoPromise() {
        Sentences s = new Sentences();
        s.under("What it is");
        s.namesNone("A search for values that fit all clauses, which learns new clauses out of conflicts: signs of up "
                + "to nine things, clauses, steps that follow, decide, or learn, levels and reasons, the way back to "
                + "the level where a new clause tells something, restarts, answers that fit and the proof that there "
                + "is none, new clauses that truly follow from the told ones, all answers counted by hand, clauses "
                + "that are needless, signs that every answer has, how many steps a search takes, clauses that are "
                + "read from texts, undo, and saved states.");
        s.namesNone("what later calls answer is free.");
        s.under("Terms");
        s.namesNone("CONVENTIONS.");
        s.under("Settings");
        s.namesNone("(In parentheses: range; first value.)");
        s.namesNone("Signs, clauses");
        return s;
    }

    /** Line by line, what stands under each heading, without code, the signs of lists, and how a call is written. */
    private static Map<String, List<String>> parts(List<String> lines) {
        Map<String, List<String>> parts = new LinkedHashMap<>();
        String heading = "";
        boolean inCode = false;
        for (String line : lines) {
            if (line.startsWith("```")) {
                inCode = !inCode;
            } else if (!inCode && line.startsWith("#")) {
                heading = line.replaceFirst("^#+ ", "");
                parts.put(heading, new ArrayList<>());
            } else if (!inCode && !line.isBlank()) {
                parts.get(heading).add(line.replaceFirst("^(- |\\d\\. |`int \\w+\\([^)]*\\)`: )", "").trim());
            }
        }
        return parts;
    }

    private static void compare(Map<String, List<String>> parts, List<Sentences.Sentence> quoted) {
        for (Sentences.Sentence sentence : quoted) {
            List<String> lines = parts.getOrDefault(sentence.heading(), List.of());
            Due.holds("\"" + sentence.words() + "\" stands under \"" + sentence.heading() + "\"",
                    lines.stream().anyMatch(line -> line.contains(sentence.words())));
        }
        parts.forEach((heading, lines) -> {
            if (!NOT_LOOKED_AT.contains(heading)) {
                lines.forEach(line -> dueQuoted(heading, line, quoted));
            }
        });
    }

    /** What is left of a line when all that is quoted is taken out of it has no word. */
    private static void dueQuoted(String heading, String line, List<Sentences.Sentence> quoted) {
        boolean[] found = new boolean[line.length()];
        for (Sentences.Sentence sentence : quoted) {
            int at = sentence.heading().equals(heading) ? line.indexOf(sentence.words()) : -1;
            for (int i = at; at >= 0 && i < at + sentence.words().length(); i++) {
                found[i] = true;
            }
        }
        StringBuilder left = new StringBuilder();
        for (int i = 0; i < line.length(); i++) {
            left.append(found[i] ? ' ' : line.charAt(i));
        }
        Due.holds("all of \"" + line + "\" under \"" + heading + "\" is quoted; left is \""
                + left.toString().trim() + "\"", !left.toString().matches(".*[A-Za-z].*"));
    }
}
