import java.util.ArrayList;
import java.util.Arrays;
import java.util.List;

/** Sentences of the document, told by the heading that they stand under, each with the tests of its own. */
final class Sentences {
    /** Words that name no boundary case have no tests. */
    record Sentence(String heading, String words, List<Runnable> tests) {
    }

    private final List<Sentence> all = new ArrayList<>();
    private String heading = "";

    void under(String heading) {
        this.heading = heading;
    }

    void test(String words, Runnable... tests) {
        if (tests.length == 0) {
            throw new IllegalArgumentException("without a test: " + words);
        }
        all.add(new Sentence(heading, words, Arrays.asList(tests)));
    }

    /** These words are quoted, so that every word of the document is; they name no boundary case. */
    void namesNone(String words) {
        all.add(new Sentence(heading, words, List.of()));
    }

    List<Sentence> all() {
        return all;
    }

    void run(String test) {
        for (Sentence sentence : all) {
            for (Runnable one : sentence.tests()) {
                Due.about("[" + sentence.heading() + "] \"" + sentence.words() + "\": ");
                runOne(one);
            }
        }
        Due.about("");
        Due.end(test);
    }

    /** A call that throws is a fault of this sentence; the tests of the others still run. */
    private static void runOne(Runnable test) {
        try {
            test.run();
        } catch (RuntimeException | StackOverflowError | OutOfMemoryError e) {
            Due.wrong("threw " + e + " at " + Arrays.toString(e.getStackTrace()));
        }
    }
}
