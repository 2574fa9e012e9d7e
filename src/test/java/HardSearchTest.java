/** Searches that learn more than 40 clauses, and so forget, or that take some 2000 steps and more. */
public final class HardSearchTest {
    private static final int NONE = -6;

    /** Each of 20 clauses; with RESTART 1 and FIRST 0, the search ends with the step that the name tells. */
    static final String ENDS_AT_2000 = "-1,-3,4,6,-7,8,9;1,2,-3,-4,6,-7,8,-9;4,5,7,8,9;-2,4,7,8,9;3,6,8,-9"
            + ";4,-5,-7,8,9;1,3,-5,-6,7,-8,9;-4,5,7,8,9;5,-7,8,9;-4,-8,-9;2,4,-6,-7,-8;-3,6,8,-9;7,-8,9;-5,7,8,9"
            + ";3,8,-9;-3,-6,8,-9;-7,-8,9;-5,-7,8,9;4,-8,-9;1,2,-3,-6,-7,-8,-9";
    static final String ENDS_AT_2001 = "-3,6,8,-9;1,-4,7,-8,-9;2,4,-5,-6,-7,9;7,-8,9;2,4,-6,-7,-8;-4,5,7,8,9"
            + ";5,-7,8,9;4,-7,8,9;4,5,7,8,9;4,-8,-9;-7,-8,9;-3,-6,8,-9;1,-2,-4,-5,-8,-9;-2,4,-5,7,8,9;-5,-7,8,9"
            + ";-5,7,8,9;-4,-8,-9;3,6,8,-9;-3,4,-5,6,8,-9;3,8,-9";
    private static final int MOST_OF_A_CALL = 500;

    /** Would end earlier if the reason of the trail's first value, once the earliest learned, was forgotten. */
    static final String KEEPS_A_REASON = "2,6,-7,8;1,-2,6,-8,9;-3,5,7,-9;1,-3,4,-5,-6,7,8;1,4,-5,-6,-7,8,-9"
            + ";1,2,-5,6,7,-8,9;-4,7,8,9;3,6,7,-9;-1,2,3,-5,7,8,-9;7,-9;-1,-2,3,4,5,6,-7,8,-9;1,2,4,-5,6,-8,9;-6,-8"
            + ";6,-8,9;5,8;-7,8,9;4,7,8,9;-5,-7,-9;5,6,-8,-9;-1,-4,5,6,-7,8";

    private HardSearchTest() {
    }

    public static void main(String[] args) {
        endsAt2000();
        endsAt2001();
        learnsSixty();
        everyStep("ends at 2001", ENDS_AT_2001, 1, 700);
        Due.due("keeps a reason: searched(0, 0)", loaded(KEEPS_A_REASON, 14).searched(0, 0), 270);
        everyStep("keeps a reason", KEEPS_A_REASON, 14, 270);
        everyStep("learns sixty", Scene.LEARNS_SIXTY, 10, 337);
        everyStep("learns sixty", Scene.LEARNS_SIXTY, 1, 500);
        Due.end("HardSearchTest");
    }

    private static ClauseWatch loaded(String clauses, int restart) {
        ClauseWatch x = new ClauseWatch();
        x.set(0, 9);
        x.set(1, restart);
        for (String clause : clauses.split(";")) {
            Due.reads(x, clause);
        }
        return x;
    }

    private static Model model(String clauses, int restart) {
        Model model = new Model();
        model.set(0, 9);
        model.set(1, restart);
        for (String clause : clauses.split(";")) {
            Due.packed(clause).forEach(model::put);
            model.read();
        }
        return model;
    }

    private static void endsAt2000() {
        ClauseWatch x = loaded(ENDS_AT_2000, 1);
        Due.due("told", x.count(0), 20);
        Due.due("searched(0, 0)", x.searched(0, 0), 2000);
        Due.due("searched(0, 2)", x.searched(0, 2), 2);
        for (int i = 0; i < 3; i++) {
            Due.due("step(500)", x.step(500), 0);
        }
        Due.due("step(499)", x.step(499), 0);
        Due.due("step(1)", x.step(1), 2);
        Due.due("count(6)", x.count(6), 2000);
        Due.due("count(1)", x.count(1), 40);
        Due.due("searched(0, 1)", x.searched(0, 1), x.count(5));
    }

    private static void endsAt2001() {
        ClauseWatch x = loaded(ENDS_AT_2001, 1);
        for (int what = 0; what <= 2; what++) {
            Due.due("searched(0, " + what + ")", x.searched(0, what), NONE);
        }
        Due.due("a bad value ahead of NONE", x.searched(0, 3), -2);
        for (int i = 0; i < 4; i++) {
            Due.due("step(500)", x.step(500), 0);
        }
        Due.due("step(500)", x.step(500), 2);
        Due.due("count(6)", x.count(6), 2001);
        Due.due("answers()", x.answers(), 0);
    }

    private static void learnsSixty() {
        ClauseWatch x = loaded(Scene.LEARNS_SIXTY, 10);
        Due.due("searched(0, 0)", x.searched(0, 0), 337);
        Due.due("searched(0, 1)", x.searched(0, 1), 60);
        Due.due("step(500)", x.step(500), 2);
        Due.due("learned", x.count(1), 40);
        Due.due("conflicts", x.count(5), 60);
        for (int number = 0; number < 60; number++) {
            Due.due("follows(" + number + ")", x.follows(number), 1);
        }
        Due.due("clause(60, 0)", x.clause(60, 0), -1);
        Due.due("follows(60)", x.follows(60), -1);
        Due.due("undo()", x.undo(), 5);
        Due.due("learned", x.count(1), 0);
    }

    /** Looks at every state, each on an object of its own, so that no object is used for more than 512 calls. */
    private static void everyStep(String name, String clauses, int restart, int most) {
        Model model = model(clauses, restart);
        int learned = 0;
        for (int step = 1; step <= most && Due.wrong() == 0; step++) {
            model.now.run(1);
            ClauseWatch x = loaded(clauses, restart);
            for (int left = step; left > 0; left -= MOST_OF_A_CALL) {
                x.step(Math.min(left, MOST_OF_A_CALL));
            }
            dueState(name + ", step " + step, x, model);
            learned = Math.max(learned, x.count(5));
        }
        Due.due(name + ": learned from more than 40 conflicts", learned > 40 ? 1 : 0, 1);
    }

    private static void dueState(String when, ClauseWatch x, Model model) {
        for (int what = 0; what <= 6; what++) {
            Due.due(when + ": count(" + what + ")", x.count(what), model.count(what));
        }
        for (int thing = 1; thing <= 9; thing++) {
            for (int what = 0; what <= 3; what++) {
                Due.due(when + ": of(" + thing + ", " + what + ")", x.of(thing, what), model.of(thing, what));
            }
        }
        for (int number = 20; number < model.count(0) + model.count(1); number++) {
            for (int what = 0; what <= model.clause(number, 0); what++) {
                String call = when + ": clause(" + number + ", " + what + ")";
                Due.due(call, x.clause(number, what), model.clause(number, what));
            }
        }
    }
}
