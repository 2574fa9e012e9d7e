/** The promises one by one, with answers that were worked out by hand. */
public final class PromiseTest {
    private static final int NO_SUCH = -1, BAD_VALUE = -2, BAD_TEXT = -3, TOO_MANY = -4, NOT_POSSIBLE = -5, NONE = -6;
    private static final int[] OUT_OF_RANGE = {Integer.MIN_VALUE, -1, Integer.MAX_VALUE};

    private static final String LEARNS = Scene.LEARNS;

    private PromiseTest() {
    }

    public static void main(String[] args) {
        promise1();
        promise2();
        promise2WhatBeginsAnew();
        promise3();
        promise3ErrorsInOrder();
        promise4();
        promise5();
        promise5Learns();
        promise5Restarts();
        promise5KeepsSignsOfLevel0();
        promise5Never();
        promise5LowestNumberFirst();
        promise6();
        promise6Errors();
        promise7();
        promise8();
        promise9();
        promise10();
        promise11();
        promise12();
        promise13();
        promise14();
        promise15();
        promise16();
        promise17();
        promise17Errors();
        promise18();
        promise19();
        promise20();
        promise20WhatIsAChange();
        promise21();
        promise22();
        Due.end("PromiseTest");
    }

    private static void due(String call, long got, long want) {
        Due.due(call, got, want);
    }

    private static ClauseWatch with(String text) {
        ClauseWatch x = new ClauseWatch();
        due("read of " + text, Due.reads(x, text) > 0 ? 1 : 0, 1);
        return x;
    }

    private static ClauseWatch with(int things, String text) {
        ClauseWatch x = new ClauseWatch();
        due("set(0, " + things + ")", x.set(0, things), 4);
        due("read of " + text, Due.reads(x, text) > 0 ? 1 : 0, 1);
        return x;
    }

    private static ClauseWatch withTwenty() {
        ClauseWatch x = with("1;2;3;4;1;2;3;4;1;2");
        due("ten more", Due.reads(x, "1;2;3;4;1;2;3;4;1;2"), 20);
        return x;
    }

    private static void dueCounts(String when, ClauseWatch x, int... want) {
        for (int what = 0; what < want.length; what++) {
            due(when + ": count(" + what + ")", x.count(what), want[what]);
        }
    }

    /** Value, level, reason and place of a thing. */
    private static void dueThing(String when, ClauseWatch x, int thing, int... want) {
        for (int what = 0; what < want.length; what++) {
            due(when + ": of(" + thing + ", " + what + ")", x.of(thing, what), want[what]);
        }
    }

    private static void dueSigns(String when, ClauseWatch x, int clause, int... want) {
        due(when + ": clause(" + clause + ", 0)", x.clause(clause, 0), want.length);
        for (int place = 1; place <= 9; place++) {
            int sign = place <= want.length ? want[place - 1] : NONE;
            due(when + ": clause(" + clause + ", " + place + ")", x.clause(clause, place), sign);
        }
    }

    private static void promise1() {
        ClauseWatch x = new ClauseWatch();
        dueCounts("new", x, 0, 0, 0, 0, 0, 0, 0, 4, 10, 0, 0, 0);
        due("new: answers()", x.answers(), 16);
        dueThing("new", x, 4, NONE, NONE, NONE, NONE);
        due("new: of(5, 0)", x.of(5, 0), NO_SUCH);
        due("new: trail(0)", x.trail(0), NO_SUCH);
        due("new: clause(0, 0)", x.clause(0, 0), NO_SUCH);
        due("new: fault()", x.fault(), 0);
        due("new: undo()", x.undo(), NOT_POSSIBLE);
        due("new: restore(0)", x.restore(0), NOT_POSSIBLE);
        due("new: restore(1)", x.restore(1), NOT_POSSIBLE);
    }

    private static void promise2() {
        ClauseWatch x = with("2,-4");
        due("set(0, 9)", x.set(0, 9), 4);
        due("set(0, 4)", x.set(0, 4), 9);
        due("set(0, 3)", x.set(0, 3), NOT_POSSIBLE);
        due("set(0, 0), out of range ahead of not possible", x.set(0, 0), BAD_VALUE);
        due("set(0, 10)", x.set(0, 10), BAD_VALUE);
        due("set(1, 20)", x.set(1, 20), 10);
        due("set(1, 1)", x.set(1, 1), 20);
        due("set(1, 0)", x.set(1, 0), BAD_VALUE);
        due("set(1, 21)", x.set(1, 21), BAD_VALUE);
        due("set(2, 1)", x.set(2, 1), 0);
        due("set(2, 0)", x.set(2, 0), 1);
        due("set(2, 2)", x.set(2, 2), BAD_VALUE);
        due("set(-1, 1)", x.set(-1, 1), BAD_VALUE);
        due("set(3, 1)", x.set(3, 1), BAD_VALUE);
        for (int value : OUT_OF_RANGE) {
            for (int setting = 0; setting < 3; setting++) {
                due("set(" + setting + ", " + value + ")", x.set(setting, value), BAD_VALUE);
            }
            due("set(" + value + ", 1)", x.set(value, 1), BAD_VALUE);
        }
        dueCounts("errors change nothing", x, 1, 0, 0, 0, 0, 0, 0, 4, 1, 0, 0, 6);
        due("drop(0)", x.drop(0), 0);
        due("set(0, 1)", x.set(0, 1), 4);
        due("answers()", x.answers(), 2);
        due("set(0, 9)", x.set(0, 9), 1);
        due("answers()", x.answers(), 512);
    }

    private static void promise2WhatBeginsAnew() {
        ClauseWatch x = with(LEARNS);
        due("step(6)", x.step(6), 0);
        due("set(1, 3)", x.set(1, 3), 10);
        due("set(2, 1)", x.set(2, 1), 0);
        dueCounts("RESTART and FIRST leave the search", x, 3, 1, 0, 1, 2, 1, 6, 4, 3, 1);
        due("set(0, 4), what it is", x.set(0, 4), 4);
        dueCounts("THINGS begins it anew", x, 3, 0, 0, 0, 0, 0, 0, 4, 3, 1);
        due("step(1)", x.step(1), 0);
        due("of(1, 0), FIRST is 1", x.of(1, 0), 1);
        due("step(500)", x.step(500), 1);
        due("set(2, 0)", x.set(2, 0), 1);
        due("it fits still", x.count(2), 1);
        due("set(0, 5)", x.set(0, 5), 4);
        due("it is open", x.count(2), 0);
    }

    private static void promise3() {
        ClauseWatch x = new ClauseWatch();
        due("puts", Due.puts(x, "-1,2,-4;3"), 9);
        due("step(500)", x.step(500), 1);
        due("read()", x.read(), 2);
        dueCounts("read begins anew, and empties the pad", x, 2, 0, 0, 0, 0, 0, 0, 4, 10, 0, 0, 2);
        dueSigns("read", x, 0, 11, 2, 14);
        dueSigns("read", x, 1, 3);
        due("reads", Due.reads(x, "1,-2,3,-4"), 3);
        dueSigns("told behind the others", x, 2, 1, 12, 3, 14);
        due("the pad is empty", x.read(), BAD_TEXT);
        x = with(9, "1,2,3,4,5,6,7,8,9;-1,-2,-3,-4,-5,-6,-7,-8,-9");
        dueSigns("nine", x, 0, 1, 2, 3, 4, 5, 6, 7, 8, 9);
        dueSigns("nine", x, 1, 11, 12, 13, 14, 15, 16, 17, 18, 19);
        due("answers()", x.answers(), 510);
        x = with(LEARNS);
        x.step(6);
        due("learned", x.count(1), 1);
        due("reads", Due.reads(x, "4"), 4);
        dueCounts("what was learned goes", x, 4, 0, 0, 0, 0, 0, 0);
        dueSigns("told where it was", x, 3, 4);
    }

    private static void promise3ErrorsInOrder() {
        ClauseWatch x = withTwenty();
        int changes = x.count(11);
        due("a fault ahead of all", Due.reads(x, "5;"), BAD_TEXT);
        due("the pad stays", x.count(10), 2);
        due("a thing too high ahead of too many", Due.reads(x, "1;-5"), BAD_VALUE);
        due("the pad stays", x.count(10), 4);
        due("too many", Due.reads(x, "1"), TOO_MANY);
        due("the pad stays", x.count(10), 1);
        due("nothing changed", x.count(0), 20);
        due("nothing recorded", x.count(11), changes);
        due("drop(0)", x.drop(0), 19);
        due("two are too many", Due.reads(x, "1;2"), TOO_MANY);
        due("one is not", Due.reads(x, "1"), 20);
        x = new ClauseWatch();
        due("thirty", Due.reads(x, "1;1;1;1;1;1;1;1;1;1;1;1;1;1;1;1;1;1;1;1;1;1;1;1;1;1;1;1;1;1"), TOO_MANY);
        due("twenty-one", Due.reads(x, "1;1;1;1;1;1;1;1;1;1;1;1;1;1;1;1;1;1;1;1;1"), TOO_MANY);
        due("twenty", Due.reads(x, "1;1;1;1;1;1;1;1;1;1;1;1;1;1;1;1;1;1;1;1"), 20);
    }

    private static void promise4() {
        ClauseWatch x = with("1;2;-3;4");
        due("step(500)", x.step(500), 1);
        due("drop(1)", x.drop(1), 3);
        dueCounts("drop begins anew", x, 3, 0, 0, 0, 0, 0, 0);
        dueSigns("those behind move up", x, 1, 13);
        dueSigns("those behind move up", x, 2, 4);
        due("clause(3, 0)", x.clause(3, 0), NO_SUCH);
        due("drop(3)", x.drop(3), NO_SUCH);
        for (int clause : OUT_OF_RANGE) {
            due("drop(" + clause + ")", x.drop(clause), NO_SUCH);
        }
        due("drop(2)", x.drop(2), 2);
        due("drop(0)", x.drop(0), 1);
        due("drop(0)", x.drop(0), 0);
        due("drop(0)", x.drop(0), NO_SUCH);
        x = with(LEARNS);
        x.step(6);
        due("a learned clause is not told", x.drop(3), NO_SUCH);
        due("drop(2)", x.drop(2), 2);
        due("what was learned goes", x.count(1), 0);
        x = withTwenty();
        due("the last of twenty", x.drop(19), 19);
    }

    private static void promise5() {
        ClauseWatch x = new ClauseWatch();
        due("step(0)", x.step(0), BAD_VALUE);
        due("step(501)", x.step(501), BAD_VALUE);
        for (int steps : OUT_OF_RANGE) {
            due("step(" + steps + ")", x.step(steps), BAD_VALUE);
        }
        due("no change", x.count(11), 0);
        due("step(2)", x.step(2), 0);
        dueCounts("two decided", x, 0, 0, 0, 2, 2, 0, 2);
        dueThing("decided", x, 2, 0, 2, NONE, 1);
        due("set(2, 1)", x.set(2, 1), 0);
        due("step(2)", x.step(2), 0);
        dueThing("decided with FIRST 1", x, 3, 1, 3, NONE, 2);
        due("all have values, but it is open", x.count(2), 0);
        due("step(1)", x.step(1), 1);
        due("five steps", x.count(6), 5);
        due("step(500)", x.step(500), 1);
        due("no step when it fits", x.count(6), 5);
        due("but a change", x.count(11), 5);
    }

    private static void promise5Learns() {
        ClauseWatch x = with(LEARNS);
        due("step(4)", x.step(4), 0);
        dueThing("decided", x, 1, 0, 1, NONE, 0);
        dueThing("decided", x, 2, 0, 2, NONE, 1);
        dueThing("follows", x, 3, 1, 2, 0, 2);
        dueThing("follows", x, 4, 1, 2, 1, 3);
        due("clause(2, 11)", x.clause(2, 11), 1);
        due("step(1)", x.step(1), 0);
        dueCounts("learned", x, 3, 1, 0, 1, 1, 1, 5);
        dueSigns("learned", x, 3, 1, 13);
        dueThing("what stays", x, 1, 0, 1, NONE, 0);
        dueThing("what goes", x, 3, NONE, NONE, NONE, NONE);
        due("step(1)", x.step(1), 0);
        dueThing("the learned clause tells", x, 3, 0, 1, 3, 1);
        due("step(500)", x.step(500), 1);
        dueThing("the first clause tells", x, 2, 1, 1, 0, 2);
        dueThing("decided", x, 4, 0, 2, NONE, 3);
        dueCounts("fits", x, 3, 1, 1, 2, 4, 1, 9);
    }

    private static void promise5Restarts() {
        ClauseWatch x = with(LEARNS);
        due("set(1, 1)", x.set(1, 1), 10);
        due("step(5)", x.step(5), 0);
        dueCounts("back to the level 0", x, 3, 1, 0, 0, 0, 1, 5);
        dueSigns("learned", x, 3, 1, 13);
        due("step(2)", x.step(2), 0);
        dueThing("decided anew", x, 1, 0, 1, NONE, 0);
        dueThing("follows", x, 3, 0, 1, 3, 1);
        x = with(LEARNS);
        due("set(1, 2)", x.set(1, 2), 10);
        due("step(5)", x.step(5), 0);
        dueCounts("one is no multiple of 2", x, 3, 1, 0, 1, 1, 1, 5);
    }

    private static void promise5KeepsSignsOfLevel0() {
        ClauseWatch x = with("4;1,2;1,-2,3,-4;-3,-4");
        due("step(4)", x.step(4), 0);
        dueThing("told", x, 4, 1, 0, 0, 0);
        dueThing("follows at the level 0", x, 3, 0, 0, 3, 1);
        dueThing("decided", x, 1, 0, 1, NONE, 2);
        dueThing("follows", x, 2, 1, 1, 1, 3);
        due("step(1)", x.step(1), 0);
        dueSigns("learned", x, 4, 1, 3, 14);
        dueCounts("back to the level 0", x, 4, 1, 0, 0, 2, 1, 5);
        due("step(1)", x.step(1), 0);
        dueThing("the learned clause tells", x, 1, 1, 0, 4, 2);
    }

    private static void promise5Never() {
        ClauseWatch x = with("1;-1");
        due("step(1)", x.step(1), 0);
        due("step(500)", x.step(500), 2);
        dueCounts("never", x, 2, 0, 2, 0, 1, 0, 2);
        due("step(1)", x.step(1), 2);
        due("no step more", x.count(6), 2);
        dueThing("values stay", x, 1, 1, 0, 0, 0);
    }

    private static void promise5LowestNumberFirst() {
        ClauseWatch x = with("1,2;1,4;1,3");
        due("step(3)", x.step(3), 0);
        due("trail(1)", x.trail(1), 2);
        due("trail(2)", x.trail(2), 4);
        x = with("1,-3;2,3;1,2,3;1,2,4");
        due("step(500)", x.step(500), 1);
        dueThing("a clause that tells goes ahead of deciding", x, 3, 0, 1, 0, 1);
        dueThing("told by the lowest number", x, 2, 1, 1, 1, 2);
        // Of two that are false, the first is the conflict: from the other one, 2 would be learned.
        x = with("2,3;1,2,-3;2,-3");
        due("step(3)", x.step(3), 0);
        due("two are false", x.clause(1, 11) + x.clause(2, 11), 2);
        due("step(1)", x.step(1), 0);
        dueSigns("learned", x, 3, 1, 2);
        x = with("1,2;1,3;1,-3;1,-2");
        due("step(2)", x.step(2), 0);
        due("one is false: the last", x.clause(3, 11), 1);
        due("step(1), a conflict ahead of a clause that tells", x.step(1), 0);
        dueCounts("learned", x, 4, 1, 0, 0, 0, 1, 3);
        dueSigns("learned", x, 4, 1);
    }

    private static void promise6() {
        ClauseWatch x = with("2;1,-3");
        due("step(4)", x.step(4), 0);
        due("trail(0)", x.trail(0), 2);
        due("the present level", x.count(3), 2);
        due("back(2)", x.back(2), 4);
        due("back(1)", x.back(1), 3);
        due("the present level", x.count(3), 1);
        dueThing("its level is greater", x, 4, NONE, NONE, NONE, NONE);
        due("back(0)", x.back(0), 1);
        dueThing("the level 0 stays", x, 2, 1, 0, 0, 0);
        due("the present level", x.count(3), 0);
        due("steps stay", x.count(6), 4);
        due("step(500)", x.step(500), 1);
        due("back(2)", x.back(2), 4);
        due("open then", x.count(2), 0);
        due("step(500)", x.step(500), 1);
        due("one step to fit", x.count(6), 9);
        x = with(LEARNS);
        x.step(6);
        due("back(0)", x.back(0), 0);
        dueCounts("what was learned stays", x, 3, 1, 0, 0, 0, 1, 6);
        due("step(2)", x.step(2), 0);
        dueThing("and tells", x, 3, 0, 1, 3, 1);
    }

    private static void promise6Errors() {
        ClauseWatch x = with("1;-1");
        due("back(0)", x.back(0), 0);
        due("back(1)", x.back(1), BAD_VALUE);
        due("step(500)", x.step(500), 2);
        int changes = x.count(11);
        due("out of range ahead of never", x.back(1), BAD_VALUE);
        due("never", x.back(0), NOT_POSSIBLE);
        for (int level : OUT_OF_RANGE) {
            due("back(" + level + ")", x.back(level), BAD_VALUE);
        }
        due("nothing recorded", x.count(11), changes);
    }

    private static void promise7() {
        ClauseWatch x = with("2;1,-3");
        x.step(3);
        dueThing("told", x, 2, 1, 0, 0, 0);
        dueThing("decided", x, 1, 0, 1, NONE, 1);
        dueThing("follows", x, 3, 0, 1, 1, 2);
        dueThing("without a value", x, 4, NONE, NONE, NONE, NONE);
        due("of(4, -1)", x.of(4, -1), BAD_VALUE);
        due("of(4, 4)", x.of(4, 4), BAD_VALUE);
        due("of(0, 4), no such thing ahead of a bad value", x.of(0, 4), NO_SUCH);
        due("of(5, -1)", x.of(5, -1), NO_SUCH);
        due("of(11, 0)", x.of(11, 0), NO_SUCH);
        for (int bad : OUT_OF_RANGE) {
            due("of(" + bad + ", 0)", x.of(bad, 0), NO_SUCH);
            due("of(1, " + bad + ")", x.of(1, bad), BAD_VALUE);
        }
    }

    private static void promise8() {
        ClauseWatch x = with("-4;3,4");
        due("trail(0)", x.trail(0), NO_SUCH);
        x.step(3);
        due("trail(0)", x.trail(0), 4);
        due("trail(1)", x.trail(1), 3);
        due("trail(2)", x.trail(2), 1);
        due("trail(3)", x.trail(3), NO_SUCH);
        for (int place : OUT_OF_RANGE) {
            due("trail(" + place + ")", x.trail(place), NO_SUCH);
        }
        due("back(0)", x.back(0), 2);
        due("trail(2)", x.trail(2), NO_SUCH);
    }

    private static void promise9() {
        ClauseWatch x = with("-1,2,-4;3");
        dueSigns("told", x, 0, 11, 2, 14);
        due("clause(0, 10)", x.clause(0, 10), 0);
        due("clause(0, 11)", x.clause(0, 11), 0);
        due("clause(0, 12)", x.clause(0, 12), 3);
        x.set(2, 1);
        x.step(2);
        due("clause(1, 10)", x.clause(1, 10), 1);
        due("clause(1, 11)", x.clause(1, 11), 0);
        due("clause(1, 12)", x.clause(1, 12), 0);
        due("clause(0, 10)", x.clause(0, 10), 0);
        due("clause(0, 12)", x.clause(0, 12), 2);
        x.step(1);
        due("clause(0, 10), true with a thing open", x.clause(0, 10), 1);
        due("clause(0, 12), true with a thing open", x.clause(0, 12), 1);
        due("clause(0, -1)", x.clause(0, -1), BAD_VALUE);
        due("clause(0, 13)", x.clause(0, 13), BAD_VALUE);
        due("clause(2, 13), no such clause ahead of a bad value", x.clause(2, 13), NO_SUCH);
        for (int bad : OUT_OF_RANGE) {
            due("clause(" + bad + ", 0)", x.clause(bad, 0), NO_SUCH);
            due("clause(0, " + bad + ")", x.clause(0, bad), BAD_VALUE);
        }
        x = with(LEARNS);
        x.step(4);
        due("clause(2, 11)", x.clause(2, 11), 1);
        due("clause(2, 10)", x.clause(2, 10), 0);
        due("clause(2, 12)", x.clause(2, 12), 0);
        due("clause(3, 0)", x.clause(3, 0), NO_SUCH);
        x.step(1);
        due("a learned clause", x.clause(3, 12), 1);
        due("clause(4, 0)", x.clause(4, 0), NO_SUCH);
    }

    private static void promise10() {
        ClauseWatch x = with(5, LEARNS);
        x.set(1, 7);
        x.set(2, 1);
        x.set(2, 0);
        Due.puts(x, "1,2");
        x.step(4);
        x.step(1);
        x.step(1);
        dueCounts("all", x, 3, 1, 0, 1, 2, 1, 6, 5, 7, 0, 3, 6);
        due("count(12)", x.count(12), BAD_VALUE);
        for (int what : OUT_OF_RANGE) {
            due("count(" + what + ")", x.count(what), BAD_VALUE);
        }
        x.set(2, 1);
        due("FIRST", x.count(9), 1);
    }

    private static void promise11() {
        due("two signs", with("1,2").answers(), 12);
        due("one sign", with(9, "-9").answers(), 256);
        due("none", with("1;-1").answers(), 0);
        due("one", with("1;-2;3;-4").answers(), 1);
        due("one thing", with(1, "-1").answers(), 1);
        ClauseWatch x = with(LEARNS);
        due("ahead of a search", x.answers(), 8);
        x.step(6);
        due("values and learned clauses do not matter", x.answers(), 8);
        due("nothing changes", x.count(6), 6);
        due("nothing is recorded", x.count(11), 2);
    }

    private static void promise12() {
        ClauseWatch x = with("1,2;-3");
        due("inAnswers(1, 0)", x.inAnswers(1, 0), 4);
        due("inAnswers(1, 1)", x.inAnswers(1, 1), 0);
        due("inAnswers(3, 0)", x.inAnswers(3, 0), 0);
        due("inAnswers(3, 1)", x.inAnswers(3, 1), 1);
        due("inAnswers(4, 0)", x.inAnswers(4, 0), 3);
        due("inAnswers(4, 1)", x.inAnswers(4, 1), 0);
        due("inAnswers(0, 2), no such thing ahead of a bad value", x.inAnswers(0, 2), NO_SUCH);
        due("inAnswers(5, 0)", x.inAnswers(5, 0), NO_SUCH);
        due("inAnswers(4, 2)", x.inAnswers(4, 2), BAD_VALUE);
        for (int bad : OUT_OF_RANGE) {
            due("inAnswers(" + bad + ", 0)", x.inAnswers(bad, 0), NO_SUCH);
            due("inAnswers(1, " + bad + ")", x.inAnswers(1, bad), BAD_VALUE);
        }
        x = with("1;2,3");
        due("always 1: inAnswers(1, 0)", x.inAnswers(1, 0), 6);
        due("always 1: inAnswers(1, 1)", x.inAnswers(1, 1), 1);
        x = with("1;-1");
        due("no answer: inAnswers(2, 0)", x.inAnswers(2, 0), 0);
        due("no answer: inAnswers(2, 1)", x.inAnswers(2, 1), 1);
    }

    private static void promise13() {
        ClauseWatch x = with(LEARNS);
        x.step(6);
        for (int clause = 0; clause <= 3; clause++) {
            due("follows(" + clause + ")", x.follows(clause), 1);
        }
        due("follows(4)", x.follows(4), NO_SUCH);
        for (int clause : OUT_OF_RANGE) {
            due("follows(" + clause + ")", x.follows(clause), NO_SUCH);
        }
        due("without any", new ClauseWatch().follows(0), NO_SUCH);
        due("without an answer", with("1;-1").follows(1), 1);
    }

    private static void promise14() {
        due("without any", new ClauseWatch().needless(), 0);
        due("1 makes 1,2 needless", with("1,2;1;-3").needless(), 1);
        due("either of two that are the same", with("1;1").needless(), 3);
        due("no answer, each needed", with("1;-1").needless(), 0);
        due("no answer, 2 not needed", with("1;-1;2").needless(), 4);
        due("the last of twenty", withTwenty().needless(), 0xFFFFF);
        ClauseWatch x = withTwenty();
        for (int clause = 19; clause >= 4; clause--) {
            x.drop(clause);
        }
        due("each told once", x.needless(), 0);
    }

    private static void promise15() {
        ClauseWatch x = with(LEARNS);
        x.step(5);
        due("searched(0, 0)", x.searched(0, 0), 9);
        due("searched(0, 1)", x.searched(0, 1), 1);
        due("searched(0, 2)", x.searched(0, 2), 1);
        due("searched(1, 0)", x.searched(1, 0), 5);
        due("searched(1, 1)", x.searched(1, 1), 0);
        due("searched(1, 2)", x.searched(1, 2), 1);
        dueCounts("nothing changes", x, 3, 1, 0, 1, 1, 1, 5, 4, 10, 0, 0, 2);
        due("searched(-1, 0)", x.searched(-1, 0), BAD_VALUE);
        due("searched(2, 0)", x.searched(2, 0), BAD_VALUE);
        due("searched(0, -1)", x.searched(0, -1), BAD_VALUE);
        due("searched(1, 3)", x.searched(1, 3), BAD_VALUE);
        for (int bad : OUT_OF_RANGE) {
            due("searched(" + bad + ", 0)", x.searched(bad, 0), BAD_VALUE);
            due("searched(0, " + bad + ")", x.searched(0, bad), BAD_VALUE);
        }
        x.set(1, 1);
        due("searched(0, 0) with RESTART 1", x.searched(0, 0), 10);
        x = with("1;-1");
        due("never: searched(0, 0)", x.searched(0, 0), 2);
        due("never: searched(0, 1)", x.searched(0, 1), 0);
        due("never: searched(0, 2)", x.searched(0, 2), 2);
        x = new ClauseWatch();
        x.step(500);
        due("from the beginning", x.searched(1, 0), 5);
        x.set(0, 9);
        due("nine things", x.searched(1, 0), 10);
    }

    private static void promise16() {
        ClauseWatch x = with("1,2;-1,2");
        x.step(2);
        due("ifTold(1)", x.ifTold(1), 1);
        due("ifTold(11)", x.ifTold(11), 1);
        due("ifTold(2)", x.ifTold(2), 1);
        due("ifTold(12)", x.ifTold(12), 2);
        due("ifTold(4)", x.ifTold(4), 1);
        due("ifTold(14)", x.ifTold(14), 1);
        dueCounts("nothing changes", x, 2, 0, 0, 1, 2, 0, 2, 4, 10, 0, 0, 2);
        for (int sign : new int[] {0, 5, 9, 10, 15, 19, 20, 21, Integer.MIN_VALUE, -1, -11, Integer.MAX_VALUE}) {
            due("ifTold(" + sign + ")", x.ifTold(sign), BAD_VALUE);
        }
        x.set(0, 9);
        due("ifTold(9)", x.ifTold(9), 1);
        due("ifTold(19)", x.ifTold(19), 1);
        due("ifTold(10)", x.ifTold(10), BAD_VALUE);
        x = withTwenty();
        due("no such sign ahead of too many", x.ifTold(15), BAD_VALUE);
        due("too many", x.ifTold(1), TOO_MANY);
        due("drop(0)", x.drop(0), 19);
        due("nineteen are not too many", x.ifTold(1), 1);
        due("never", x.ifTold(11), 2);
        due("nothing changes", x.count(0), 19);
    }

    private static void promise17() {
        ClauseWatch x = new ClauseWatch();
        due("one character", x.put('1'), 1);
        due("two", x.put(',' << 8 | '-'), 3);
        due("the last is in the lowest bits", Due.puts(x, "4;2,-3;1"), 11);
        due("no fault", x.fault(), NONE);
        due("read()", x.read(), 3);
        dueSigns("in order", x, 0, 1, 14);
        dueSigns("in order", x, 1, 2, 13);
        dueSigns("in order", x, 2, 1);
        due("put is no change", x.count(11), 1);
        due("code 33", x.put(33), 1);
        due("code 126", x.put(126), 2);
        due("eight of the highest code", x.put(0x7E7E7E7E7E7E7E7EL), 10);
    }

    private static void promise17Errors() {
        ClauseWatch x = new ClauseWatch();
        long[] bad = {0, 32, 127, 128, 255, -1, Long.MIN_VALUE, Long.MAX_VALUE, '1' << 8, 0x310031, 0x31003131L,
            0x3100000000000000L, 0x0100000000000031L, 0x2031, 0x3120, 0x317F31, 0xB131313131313131L,
            0x3131313131313180L, 0x310000000031L};
        for (long characters : bad) {
            due("put(" + characters + ")", x.put(characters), BAD_VALUE);
        }
        due("nothing put", x.count(10), 0);
        due("56 characters", Due.puts(x, "12345678".repeat(7)), 56);
        due("61 would be too many", x.put(0x3131313131L), TOO_MANY);
        due("a bad value ahead of too many", x.put(0x3131311F31L), BAD_VALUE);
        due("nothing put", x.count(10), 56);
        due("60 are not", x.put(0x31313131L), 60);
        due("61 are", x.put(0x31), TOO_MANY);
        due("no character ahead of too many", x.put(0), BAD_VALUE);
    }

    private static void promise18() {
        ClauseWatch x = new ClauseWatch();
        due("wipe()", x.wipe(), 0);
        Due.puts(x, "1,2,3;4,5");
        due("wipe()", x.wipe(), 9);
        due("wipe()", x.wipe(), 0);
        due("empty", x.count(10), 0);
        due("fault()", x.fault(), 0);
        due("no change", x.count(11), 0);
        Due.puts(x, "2");
        due("read()", x.read(), 1);
        dueSigns("nothing of the old text", x, 0, 2);
    }

    private static void promise19() {
        String[] whole = {"1", "-9", "1,2", "1,-2;-1,2", "9;1;9", "1,2,3,4,5,6,7,8,9", "-8,-9;-8,9", "9;9;9"};
        for (String text : whole) {
            dueFault(text, NONE);
        }
        for (String text : new String[] {"", "-", "1,", "1;", "1,-", "9;", "1,2;-", "1,2;3,"}) {
            dueFault(text, text.length());
        }
        dueFault("0", 0);
        dueFault(",", 0);
        dueFault(";", 0);
        dueFault("+1", 0);
        dueFault(":", 0);
        dueFault("--1", 1);
        dueFault("-0", 1);
        dueFault("-,", 1);
        dueFault("-;", 1);
        dueFault("12", 1);
        dueFault("1-", 1);
        dueFault("9,", 1);
        dueFault("-9,", 2);
        dueFault("1,,", 2);
        dueFault("1,;", 2);
        dueFault("1;;", 2);
        dueFault("1;,", 2);
        dueFault("1,0", 2);
        dueFault("1,1", 2);
        dueFault("2,1", 2);
        dueFault("2,-1", 3);
        dueFault("2,-2", 3);
        dueFault("1,9,", 3);
        dueFault("3,4;2,2", 6);
        dueFault("3;-5,4,x", 5);
        dueFault("1,2;3,4x", 7);
        dueFault("9".repeat(60), 1);
        dueFault("1;".repeat(30), 60);
        dueFault("1;".repeat(29) + "-1", NONE);
    }

    private static void dueFault(String text, int want) {
        ClauseWatch x = new ClauseWatch();
        Due.puts(x, text);
        due("fault() of " + text, x.fault(), want);
        due("length of " + text, x.count(10), text.length());
        if (want != NONE) {
            due("read() of " + text, x.read(), BAD_TEXT);
        }
    }

    private static void promise20() {
        ClauseWatch x = new ClauseWatch();
        due("undo()", x.undo(), NOT_POSSIBLE);
        due("set(0, 5)", x.set(0, 5), 4);
        due("reads", Due.reads(x, LEARNS), 3);
        due("step(5)", x.step(5), 0);
        due("step(500)", x.step(500), 1);
        Due.puts(x, "1,2");
        due("back(1)", x.back(1), 3);
        due("drop(0)", x.drop(0), 2);
        dueCounts("six", x, 2, 0, 0, 0, 0, 0, 0, 5, 10, 0, 3, 6);
        due("undo()", x.undo(), 5);
        dueCounts("ahead of drop", x, 3, 1, 0, 1, 3, 1, 10, 5, 10, 0, 3, 5);
        dueSigns("ahead of drop", x, 0, 2, 3);
        dueSigns("ahead of drop", x, 3, 1, 13);
        dueThing("ahead of drop", x, 3, 0, 1, 3, 1);
        due("undo()", x.undo(), 4);
        dueCounts("ahead of back", x, 3, 1, 1, 3, 5, 1, 10, 5, 10, 0, 3, 4);
        due("undo()", x.undo(), 3);
        dueCounts("ahead of the steps", x, 3, 1, 0, 1, 1, 1, 5, 5, 10, 0, 3, 3);
        due("undo()", x.undo(), 2);
        dueCounts("ahead of the first steps", x, 3, 0, 0, 0, 0, 0, 0, 5, 10, 0, 3, 2);
        due("undo()", x.undo(), 1);
        dueCounts("ahead of read; the pad stays as it is", x, 0, 0, 0, 0, 0, 0, 0, 5, 10, 0, 3, 1);
        due("undo()", x.undo(), 0);
        dueCounts("new", x, 0, 0, 0, 0, 0, 0, 0, 4, 10, 0, 3, 0);
        due("undo()", x.undo(), NOT_POSSIBLE);
        for (int value = 1; value <= 9; value++) {
            x.set(1, value);
        }
        due("the oldest are dropped", x.count(11), 6);
        for (int left = 5; left >= 0; left--) {
            due("undo()", x.undo(), left);
            due("RESTART", x.count(8), left + 3);
        }
        due("undo()", x.undo(), NOT_POSSIBLE);
        x.set(1, 17);
        due("undo() of what came behind undo", x.undo(), 0);
        due("RESTART", x.count(8), 3);
    }

    private static void promise20WhatIsAChange() {
        ClauseWatch x = new ClauseWatch();
        due("set to what it is", x.set(2, 0) + x.count(11), 1);
        due("step", x.step(500) + x.count(11), 1 + 2);
        due("step without a step", x.step(500) + x.count(11), 1 + 3);
        due("back", x.back(4) + x.count(11), 4 + 4);
        due("save", x.save(0) + x.count(11), 4);
        due("restore of what is", x.restore(0) + x.count(11), 5);
        Due.puts(x, "1");
        due("fault", x.fault() + x.count(11), NONE + 5);
        due("wipe", x.wipe() + x.count(11), 1 + 5);
        x.answers();
        x.needless();
        x.searched(1, 1);
        x.ifTold(1);
        x.inAnswers(1, 1);
        due("no change", x.count(11), 5);
        due("undo() of restore", x.undo(), 4);
        due("undo() of back", x.undo(), 3);
        due("it fits", x.count(2), 1);
    }

    private static void promise21() {
        ClauseWatch x = with(LEARNS);
        due("save(0)", x.save(0), 3);
        due("save(1)", x.save(1), 3);
        due("save(2)", x.save(2), BAD_VALUE);
        for (int slot : OUT_OF_RANGE) {
            due("save(" + slot + ")", x.save(slot), BAD_VALUE);
        }
        due("drop(0)", x.drop(0), 2);
        due("save(1) overwrites", x.save(1), 2);
        due("restore(0)", x.restore(0), 3);
        due("restore(1)", x.restore(1), 2);
        due("undo()", x.undo(), 3);
        due("told", x.count(0), 3);
        due("undo leaves the slots", x.undo() + x.undo() + x.undo(), 2 + 1);
        due("restore(1)", x.restore(1), 2);
        due("no told clauses", new ClauseWatch().save(1), 0);
    }

    private static void promise22() {
        ClauseWatch x = with(5, LEARNS);
        x.set(1, 3);
        x.step(6);
        due("restore(0)", x.restore(0), NOT_POSSIBLE);
        due("save(0)", x.save(0), 3);
        due("restore(1), nothing saved there", x.restore(1), NOT_POSSIBLE);
        due("restore(2)", x.restore(2), BAD_VALUE);
        for (int slot : OUT_OF_RANGE) {
            due("restore(" + slot + ")", x.restore(slot), BAD_VALUE);
        }
        due("errors are no changes", x.count(11), 4);
        due("step(500)", x.step(500), 1);
        due("the slot keeps what was saved: restore(0)", x.restore(0), 3);
        Due.puts(x, "5;-5;2");
        dueCounts("restored", x, 3, 1, 0, 1, 2, 1, 6, 5, 3, 0, 6, 6);
        dueSigns("restored", x, 3, 1, 13);
        dueThing("restored", x, 3, 0, 1, 3, 1);
        due("read()", x.read(), 6);
        due("set(0, 9)", x.set(0, 9), 5);
        Due.puts(x, "1");
        due("restore(0)", x.restore(0), 3);
        dueCounts("restored again; the pad and the history stay", x, 3, 1, 0, 1, 2, 1, 6, 5, 3, 0, 1, 6);
        due("undo() of restore", x.undo(), 5);
        dueCounts("undone", x, 6, 0, 0, 0, 0, 0, 0, 9, 3, 0, 1, 5);
    }
}
