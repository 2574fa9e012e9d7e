import java.util.ArrayList;
import java.util.List;

/**
 * All that calls can tell of an object, in parts, as an object is used for at most 512 calls. A part may
 * change the object that it looks at: each one is to be given an object that was made anew.
 */
final class Sight {
    static final int PARTS = 8;
    private static final int CLAUSES_OF_A_PART = 20;
    private static final int MOST_THINGS = 9;

    private final ClauseWatch x;
    private final List<String> rows = new ArrayList<>();

    private Sight(ClauseWatch x) {
        this.x = x;
    }

    static List<String> part(ClauseWatch x, int part) {
        Sight sight = new Sight(x);
        switch (part) {
            case 0 -> sight.now();
            case 1, 2, 3 -> sight.clauses((part - 1) * CLAUSES_OF_A_PART);
            case 4 -> sight.history();
            case 5 -> sight.slots();
            case 6 -> sight.pad();
            default -> sight.howItGoesOn();
        }
        return sight.rows;
    }

    private void row(String call, int answer) {
        rows.add(call + " " + answer);
    }

    private void counts() {
        for (int what = 0; what <= 11; what++) {
            row("count(" + what + ")", x.count(what));
        }
    }

    private void values(int mostWhat) {
        for (int thing = 1; thing <= MOST_THINGS; thing++) {
            for (int what = 0; what <= mostWhat; what++) {
                row("of(" + thing + ", " + what + ")", x.of(thing, what));
            }
        }
    }

    private void now() {
        counts();
        values(3);
        for (int place = 0; place <= MOST_THINGS; place++) {
            row("trail(" + place + ")", x.trail(place));
        }
        row("answers()", x.answers());
        row("needless()", x.needless());
        row("fault()", x.fault());
        for (int thing = 1; thing <= MOST_THINGS; thing++) {
            for (int what = 0; what <= 1; what++) {
                row("inAnswers(" + thing + ", " + what + ")", x.inAnswers(thing, what));
                row("ifTold(" + (thing + 10 * what) + ")", x.ifTold(thing + 10 * what));
            }
        }
        for (int first = 0; first <= 1; first++) {
            for (int what = 0; what <= 2; what++) {
                row("searched(" + first + ", " + what + ")", x.searched(first, what));
            }
        }
    }

    private void clauses(int from) {
        for (int clause = from; clause < from + CLAUSES_OF_A_PART; clause++) {
            for (int what = 0; what <= 12; what++) {
                row("clause(" + clause + ", " + what + ")", x.clause(clause, what));
            }
            row("follows(" + clause + ")", x.follows(clause));
        }
    }

    /** Enough to tell one state of the search from another one. */
    private void shortly() {
        counts();
        values(0);
        for (int clause : new int[] {0, x.count(0) - 1, x.count(0) + x.count(1) - 1}) {
            for (int what = 1; what <= 5; what++) {
                row("clause(" + clause + ", " + what + ")", x.clause(clause, what));
            }
        }
    }

    private void history() {
        for (int i = 0; i < 7; i++) {
            row("undo()", x.undo());
            shortly();
        }
    }

    private void slots() {
        for (int slot = 0; slot <= 1; slot++) {
            row("restore(" + slot + ")", x.restore(slot));
            shortly();
            values(3);
        }
    }

    /** What stands on the pad is seen by reading it; a text that ends too early is made longer for that. */
    private void pad() {
        row("fault()", x.fault());
        row("put('9')", x.put('9'));
        row("fault()", x.fault());
        x.set(0, 9);
        while (x.count(0) > 0) {
            x.drop(0);
        }
        row("read()", x.read());
        for (int clause = 0; clause < x.count(0); clause++) {
            for (int what = 1; what <= 9; what++) {
                row("clause(" + clause + ", " + what + ")", x.clause(clause, what));
            }
        }
        row("count(10)", x.count(10));
    }

    private void howItGoesOn() {
        for (int steps : new int[] {1, 1, 1, 5, 500}) {
            row("step(" + steps + ")", x.step(steps));
            counts();
            values(2);
        }
    }
}
