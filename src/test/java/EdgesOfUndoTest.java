/** The boundary cases of the promises 20 to 22. */
public final class EdgesOfUndoTest {
    private static final int NO_SUCH = -1, BAD_VALUE = -2, NOT_POSSIBLE = -5, NONE = -6;
    private static final int LEAST = Integer.MIN_VALUE, MOST = Integer.MAX_VALUE;
    private static final int[] NO_SLOTS = {LEAST, -2, -1, 2, 3, MOST};

    private EdgesOfUndoTest() {
    }

    public static void main(String[] args) {
        sentences().run("EdgesOfUndoTest");
    }

    static Sentences sentences() {
        Sentences s = new Sentences();
        s.under("Promise 20: undo");
        s.test("Undoes the latest change: everything except the pad, the slots and the history is as it was before "
                + "it.", EdgesOfUndoTest::undoesEachChange, EdgesOfUndoTest::undoLeavesThePad,
                EdgesOfUndoTest::undoLeavesTheSlots, EdgesOfUndoTest::undoLeavesTheHistory,
                EdgesOfUndoTest::undoesTheLatest);
        s.test("A history of at most 6 states is kept: each method that is a change, and returns no error, records "
                + "the state before it (also if nothing is different then)", EdgesOfUndoTest::fiveSixAndSeven,
                EdgesOfUndoTest::eachMethodThatIsAChange, EdgesOfUndoTest::nothingDifferent,
                EdgesOfUndoTest::errorsAreNotRecorded, EdgesOfUndoTest::othersAreNotRecorded);
        s.test("when one more is recorded, the oldest one is dropped.", EdgesOfUndoTest::theOldestIsDropped,
                EdgesOfUndoTest::nothingIsDroppedBelowSix, EdgesOfUndoTest::manyMoreThanSix);
        s.test("Returns how many changes can be undone then", EdgesOfUndoTest::fiveToNoneThen);
        s.test("NOT_POSSIBLE if there is none.", EdgesOfUndoTest::nothingToUndo, EdgesOfUndoTest::allIsUndone);
        s.under("Promise 21: save");
        s.test("Saves everything except the pad, the history and the slots in a slot, and overwrites what was saved "
                + "there.", EdgesOfUndoTest::savesEverything, EdgesOfUndoTest::savesNoPad,
                EdgesOfUndoTest::savesNoHistory, EdgesOfUndoTest::savesNoSlots, EdgesOfUndoTest::overwrites,
                EdgesOfUndoTest::savesACopy);
        s.test("`slot`: 0 or 1", EdgesOfUndoTest::twoSlots);
        s.test("Returns how many told clauses there are", EdgesOfUndoTest::noneToTwentySaved);
        s.test("BAD_VALUE if there is no such slot.", EdgesOfUndoTest::noSuchSlotToSave);
        s.under("Promise 22: restore");
        s.test("Restores what was saved last in a slot, which keeps it.", EdgesOfUndoTest::restoresTheLast,
                EdgesOfUndoTest::theSlotKeepsIt);
        s.test("This is a change.", EdgesOfUndoTest::restoreIsAChange);
        s.test("`slot`: 0 or 1", EdgesOfUndoTest::twoSlots);
        s.test("Returns how many told clauses there are then", EdgesOfUndoTest::noneToTwentyRestored);
        s.test("BAD_VALUE if there is no such slot", EdgesOfUndoTest::noSuchSlotToRestore,
                EdgesOfTermsTest::orderOfRestore);
        s.test("NOT_POSSIBLE if nothing was saved in it.", EdgesOfUndoTest::nothingSaved,
                EdgesOfUndoTest::savedInTheOtherSlotAlone);
        return s;
    }

    private static void due(String call, long got, long want) {
        Due.due(call, got, want);
    }

    private static Scene[] scenes() {
        return new Scene[] {Scene.FRESH, Scene.MIDDLE, Scene.FULL, Scene.TWENTY, Scene.FITS, Scene.NEVER};
    }

    /** One call of each method that is a change; those that a scene refuses are passed over. */
    private static Scene.Call[] changes() {
        return new Scene.Call[] {x -> x.set(0, 9), x -> x.set(1, 1), x -> x.set(2, 1), x -> Due.reads(x, "1;-2"),
            x -> x.drop(0), x -> x.step(1), x -> x.step(500), x -> x.back(0), x -> x.restore(0), x -> x.restore(1)};
    }

    // ---- Promise 20

    private static void undoesEachChange() {
        for (Scene scene : scenes()) {
            Scene.Call[] changes = changes();
            for (int i = 0; i < changes.length; i++) {
                Scene.Call change = changes[i];
                if (change.on(scene.make()) >= 0) {
                    scene.sameSearchAs("behind change " + i + " and undo()", () -> {
                        ClauseWatch x = scene.make();
                        change.on(x);
                        due("undo() is no error", x.undo() >= 0 ? 1 : 0, 1);
                        return x;
                    });
                }
            }
        }
    }

    private static void undoLeavesThePad() {
        ClauseWatch x = Scene.told("1");
        Due.puts(x, "2;3");
        due("read()", x.read(), 3);
        due("undo()", x.undo(), 2);
        due("the pad stays empty", x.count(10), 0);
        Due.puts(x, "-4");
        due("undo()", x.undo(), 1);
        due("the pad stays full", x.count(10), 2);
        due("fault()", x.fault(), NONE);
        due("read()", x.read(), 1);
        EdgesOfTermsTest.dueSigns(x, 0, 14);
        ClauseWatch full = Scene.FULL.make();
        for (int left = 5; left >= 0; left--) {
            due("undo()", full.undo(), left);
            due("count(10)", full.count(10), 60);
        }
        due("undo()", full.undo(), NOT_POSSIBLE);
        due("fault()", full.fault(), NONE);
    }

    private static void undoLeavesTheSlots() {
        ClauseWatch x = new ClauseWatch();
        x.set(0, 9);
        x.save(0);
        x.set(0, 7);
        x.save(1);
        due("undo()", x.undo(), 1);
        due("undo()", x.undo(), 0);
        due("THINGS", x.count(7), 4);
        due("restore(1)", x.restore(1), 0);
        due("THINGS", x.count(7), 7);
        due("restore(0)", x.restore(0), 0);
        due("THINGS", x.count(7), 9);
        due("undo() of restore", x.undo(), 1);
        due("THINGS", x.count(7), 7);
        due("restore(0), the slot is still there", x.restore(0), 0);
        due("THINGS", x.count(7), 9);
    }

    /** The states behind undo are those that were there, and what was undone is not to be had again. */
    private static void undoLeavesTheHistory() {
        ClauseWatch x = new ClauseWatch();
        for (int value = 1; value <= 5; value++) {
            x.set(1, value);
        }
        due("undo()", x.undo(), 4);
        due("undo()", x.undo(), 3);
        due("RESTART", x.count(8), 3);
        x.set(1, 20);
        due("count(11)", x.count(11), 4);
        int[] want = {3, 2, 1, 10};
        for (int i = 0; i < 4; i++) {
            due("undo()", x.undo(), 3 - i);
            due("RESTART", x.count(8), want[i]);
        }
        due("undo()", x.undo(), NOT_POSSIBLE);
    }

    private static void undoesTheLatest() {
        ClauseWatch x = new ClauseWatch();
        x.set(1, 5);
        x.set(2, 1);
        due("undo()", x.undo(), 1);
        due("FIRST", x.count(9), 0);
        due("RESTART", x.count(8), 5);
        due("undo()", x.undo(), 0);
        due("RESTART", x.count(8), 10);
    }

    private static void fiveSixAndSeven() {
        int[] want = {0, 1, 2, 3, 4, 5, 6, 6, 6};
        ClauseWatch x = new ClauseWatch();
        for (int changes = 0; changes <= 8; changes++) {
            due(changes + " changes: count(11)", x.count(11), want[changes]);
            x.set(1, 1 + changes);
        }
        for (int left = 5; left >= 0; left--) {
            due("undo()", x.undo(), left);
        }
        due("undo()", x.undo(), NOT_POSSIBLE);
    }

    private static void eachMethodThatIsAChange() {
        String[] names = {"set(0)", "set(1)", "set(2)", "read", "drop", "step(1)", "step(500)", "back"};
        Scene.Call[] changes = changes();
        for (int i = 0; i < names.length; i++) {
            ClauseWatch x = Scene.told("1");
            x.step(1);
            int before = x.count(11);
            due(names[i] + " is no error", changes[i].on(x) >= 0 ? 1 : 0, 1);
            due(names[i] + ": count(11)", x.count(11), before + 1);
        }
        for (int slot = 0; slot <= 1; slot++) {
            ClauseWatch x = new ClauseWatch();
            x.save(slot);
            due("restore(" + slot + ")", x.restore(slot), 0);
            due("count(11)", x.count(11), 1);
        }
    }

    private static void nothingDifferent() {
        ClauseWatch x = new ClauseWatch();
        due("set(0, 4)", x.set(0, 4) + x.count(11), 4 + 1);
        due("set(1, 10)", x.set(1, 10) + x.count(11), 10 + 2);
        due("set(2, 0)", x.set(2, 0) + x.count(11), 3);
        due("back(0)", x.back(0) + x.count(11), 4);
        x.save(1);
        due("restore(1)", x.restore(1) + x.count(11), 5);
        due("back(0)", x.back(0) + x.count(11), 6);
        ClauseWatch fits = Scene.FITS.make();
        due("step(1), it fits", fits.step(1) + fits.count(11), 1 + 3);
        ClauseWatch never = Scene.NEVER.make();
        due("step(500), never", never.step(500) + never.count(11), 2 + 4);
        due("undo()", never.undo(), 3);
        due("count(2)", never.count(2), 2);
    }

    private static void errorsAreNotRecorded() {
        Scene.Call[] refused = {x -> x.set(3, 0), x -> x.set(0, 0), x -> x.set(0, 10), x -> x.set(0, 1),
            x -> Due.reads(x, "1,"), x -> Due.reads(x, "9"), x -> Due.reads(x, "1" + ";1".repeat(20)),
            x -> x.drop(-1), x -> x.drop(20), x -> x.step(0), x -> x.step(501), x -> x.back(-1), x -> x.back(9),
            x -> x.restore(2), x -> x.restore(1), x -> x.save(2), x -> x.put(0)};
        for (int i = 0; i < refused.length; i++) {
            ClauseWatch x = Scene.told("2");
            x.step(1);
            due("call " + i + " is an error", refused[i].on(x) < 0 ? 1 : 0, 1);
            due("call " + i + ": count(11)", x.count(11), 3);
            due("undo() behind call " + i, x.undo(), 2);
            due("is that of step: count(6)", x.count(6), 0);
        }
        ClauseWatch never = Scene.NEVER.make();
        due("back(0)", never.back(0), NOT_POSSIBLE);
        due("count(11)", never.count(11), 3);
    }

    private static void othersAreNotRecorded() {
        Scene.Call[] others = {x -> x.of(1, 0), x -> x.trail(0), x -> x.clause(0, 1), x -> x.count(6),
            ClauseWatch::answers, x -> x.inAnswers(1, 0), x -> x.follows(0), ClauseWatch::needless,
            x -> x.searched(0, 0), x -> x.ifTold(1), x -> x.put('1'), ClauseWatch::wipe, ClauseWatch::fault,
            x -> x.save(0), x -> x.save(1)};
        for (Scene scene : scenes()) {
            int before = scene.make().count(11);
            for (int i = 0; i < others.length; i++) {
                ClauseWatch x = scene.make();
                others[i].on(x);
                due("call " + i + ": count(11)", x.count(11), before);
            }
        }
    }

    private static void theOldestIsDropped() {
        ClauseWatch x = new ClauseWatch();
        for (int value = 1; value <= 7; value++) {
            x.set(1, value);
        }
        for (int left = 5; left >= 0; left--) {
            due("undo()", x.undo(), left);
            due("RESTART", x.count(8), left + 1);
        }
        due("the state with RESTART 10 has been dropped", x.undo(), NOT_POSSIBLE);
        due("RESTART", x.count(8), 1);
    }

    private static void nothingIsDroppedBelowSix() {
        ClauseWatch x = new ClauseWatch();
        for (int value = 1; value <= 6; value++) {
            x.set(1, value);
        }
        due("undo()", x.undo(), 5);
        x.set(1, 20);
        int[] want = {5, 4, 3, 2, 1, 10};
        for (int i = 0; i < 6; i++) {
            due("undo()", x.undo(), 5 - i);
            due("RESTART", x.count(8), want[i]);
        }
        due("undo()", x.undo(), NOT_POSSIBLE);
    }

    private static void manyMoreThanSix() {
        ClauseWatch x = new ClauseWatch();
        for (int change = 0; change < 400; change++) {
            x.set(1, 1 + change % 20);
            if (change % 7 == 6) {
                due("undo()", x.undo(), 5);
                due("RESTART", x.count(8), 1 + (change - 1) % 20);
            }
        }
        due("count(11)", x.count(11), 6);
    }

    private static void fiveToNoneThen() {
        ClauseWatch x = Scene.FULL.make();
        for (int left = 5; left >= 0; left--) {
            due("count(11)", x.count(11), left + 1);
            due("undo()", x.undo(), left);
            due("count(11)", x.count(11), left);
        }
        // Six states: ahead of step(100), (50), (70), (40), (5) and (5); the oldest is the one with all told.
        due("steps", x.count(6), 0);
        due("told", x.count(0), 20);
    }

    private static void nothingToUndo() {
        Scene.FRESH.refuses("undo()", ClauseWatch::undo, NOT_POSSIBLE);
        Scene.FRESH.withPad("1").refuses("undo(), the pad is no change", ClauseWatch::undo, NOT_POSSIBLE);
        Scene saved = Scene.FRESH.then("save(0)", x -> x.save(0));
        saved.refuses("undo(), save is no change", ClauseWatch::undo, NOT_POSSIBLE);
        Scene refused = Scene.FRESH.then("step(0)", x -> x.step(0));
        refused.refuses("undo(), an error is no change", ClauseWatch::undo, NOT_POSSIBLE);
    }

    private static void allIsUndone() {
        for (int changes = 1; changes <= 7; changes++) {
            int many = changes;
            Scene scene = new Scene(changes + " changes, all undone", () -> {
                ClauseWatch x = new ClauseWatch();
                for (int i = 1; i <= many; i++) {
                    x.set(1, i);
                }
                for (int i = 0; i < Math.min(many, 6); i++) {
                    x.undo();
                }
                return x;
            });
            scene.refuses("undo()", ClauseWatch::undo, NOT_POSSIBLE);
            due("RESTART", scene.make().count(8), many == 7 ? 1 : 10);
        }
    }

    // ---- Promise 21

    private static void savesEverything() {
        for (Scene scene : scenes()) {
            for (int slot = 0; slot <= 1; slot++) {
                int number = slot;
                scene.sameSearchAs("saved in " + slot + ", then changed, then restored", () -> {
                    ClauseWatch x = scene.make();
                    int told = x.count(0);
                    due("save(" + number + ")", x.save(number), told);
                    x.set(1, 13);
                    x.set(2, 1 - x.count(9));
                    x.drop(0);
                    Due.reads(x, "-1;2");
                    x.set(0, 9);
                    x.step(7);
                    due("restore(" + number + ")", x.restore(number), told);
                    return x;
                });
            }
        }
    }

    private static void savesNoPad() {
        ClauseWatch x = new ClauseWatch();
        Due.puts(x, "1,2");
        x.save(0);
        x.wipe();
        x.restore(0);
        due("the pad stays empty", x.count(10), 0);
        Due.puts(x, "-3");
        x.restore(0);
        due("the pad stays", x.count(10), 2);
        due("read()", x.read(), 1);
        EdgesOfTermsTest.dueSigns(x, 0, 13);
        ClauseWatch full = Scene.FULL.make();
        due("save(0)", full.save(0), 20);
        due("count(10)", full.count(10), 60);
    }

    private static void savesNoHistory() {
        ClauseWatch x = new ClauseWatch();
        x.set(1, 1);
        x.save(0);
        x.set(1, 2);
        x.set(1, 3);
        due("count(11)", x.count(11), 3);
        due("restore(0)", x.restore(0), 0);
        due("count(11)", x.count(11), 4);
        int[] want = {3, 2, 1, 10};
        for (int i = 0; i < 4; i++) {
            due("undo()", x.undo(), 3 - i);
            due("RESTART", x.count(8), want[i]);
        }
    }

    private static void savesNoSlots() {
        ClauseWatch x = new ClauseWatch();
        x.set(1, 1);
        x.save(0);
        x.set(1, 2);
        x.save(1);
        x.set(1, 3);
        x.save(0);
        due("restore(1)", x.restore(1), 0);
        due("RESTART", x.count(8), 2);
        due("restore(0), not as it was when 1 was saved", x.restore(0), 0);
        due("RESTART", x.count(8), 3);
    }

    private static void overwrites() {
        for (int slot = 0; slot <= 1; slot++) {
            ClauseWatch x = Scene.told("1;2");
            due("save", x.save(slot), 2);
            x.drop(0);
            due("save", x.save(slot), 1);
            x.drop(0);
            due("save", x.save(slot), 0);
            Due.reads(x, "3");
            due("restore", x.restore(slot), 0);
            due("count(0)", x.count(0), 0);
        }
        ClauseWatch full = Scene.FULL.make();
        full.back(0);
        full.drop(0);
        due("save(1) over a longer one", full.save(1), 19);
        due("restore(0)", full.restore(0), 20);
        due("restore(1)", full.restore(1), 19);
        due("learned", full.count(1), 0);
        due("clause(19, 0)", full.clause(19, 0), NO_SUCH);
    }

    private static void savesACopy() {
        ClauseWatch x = Scene.MIDDLE.make();
        x.save(1);
        x.step(500);
        x.back(0);
        x.drop(2);
        due("restore(1)", x.restore(1), 3);
        EdgesOfSearchTest.dueSearch(x, 3, 1, 0, 1, 2, 1, 6);
        EdgesOfTermsTest.dueSigns(x, 3, 1, 13);
    }

    private static void twoSlots() {
        ClauseWatch x = new ClauseWatch();
        x.set(1, 1);
        due("save(0)", x.save(0), 0);
        x.set(1, 2);
        due("save(1)", x.save(1), 0);
        x.set(1, 3);
        due("restore(0)", x.restore(0), 0);
        due("RESTART", x.count(8), 1);
        due("restore(1)", x.restore(1), 0);
        due("RESTART", x.count(8), 2);
        for (int slot : NO_SLOTS) {
            due("save(" + slot + ")", x.save(slot), BAD_VALUE);
            due("restore(" + slot + ")", x.restore(slot), BAD_VALUE);
        }
    }

    private static void noneToTwentySaved() {
        ClauseWatch x = new ClauseWatch();
        for (int told = 0; told <= 20; told++) {
            due("save(" + told % 2 + ")", x.save(told % 2), told);
            Due.reads(x, "1");
        }
        due("learned ones do not count: save(0)", Scene.MIDDLE.make().save(0), 3);
        due("learned ones do not count: save(1)", Scene.FULL.make().save(1), 20);
    }

    private static void noSuchSlotToSave() {
        for (int slot : NO_SLOTS) {
            Scene.FRESH.refuses("save(" + slot + ")", x -> x.save(slot), BAD_VALUE);
            Scene.FULL.refuses("save(" + slot + ")", x -> x.save(slot), BAD_VALUE);
        }
    }

    // ---- Promise 22

    private static void restoresTheLast() {
        ClauseWatch x = new ClauseWatch();
        for (int value = 1; value <= 9; value++) {
            x.set(1, value);
            x.save(value % 2);
        }
        x.set(1, 20);
        due("restore(0)", x.restore(0), 0);
        due("RESTART", x.count(8), 8);
        due("restore(1)", x.restore(1), 0);
        due("RESTART", x.count(8), 9);
    }

    private static void theSlotKeepsIt() {
        for (int slot = 0; slot <= 1; slot++) {
            ClauseWatch x = Scene.told(5, Scene.LEARNS);
            x.step(6);
            x.save(slot);
            for (int time = 0; time < 4; time++) {
                x.step(500);
                x.drop(0);
                Due.reads(x, "1;2");
                due("restore(" + slot + ")", x.restore(slot), 3);
                EdgesOfSearchTest.dueSearch(x, 3, 1, 0, 1, 2, 1, 6);
                EdgesOfTermsTest.dueSigns(x, 0, 2, 3);
                EdgesOfTermsTest.dueSigns(x, 3, 1, 13);
                EdgesOfSearchTest.dueThing(x, 3, 0, 1, 3, 1);
            }
            due("undo() leaves it: undo()", x.undo(), 5);
            due("restore(" + slot + ")", x.restore(slot), 3);
            EdgesOfSearchTest.dueSearch(x, 3, 1, 0, 1, 2, 1, 6);
        }
    }

    private static void restoreIsAChange() {
        for (Scene scene : new Scene[] {Scene.MIDDLE, Scene.FULL, Scene.NEVER}) {
            ClauseWatch x = scene.make();
            int before = x.count(11);
            due("restore(0) is no error", x.restore(0) >= 0 ? 1 : 0, 1);
            due("count(11)", x.count(11), Math.min(6, before + 1));
            scene.sameSearchAs("behind restore(0) and undo()", () -> {
                ClauseWatch y = scene.make();
                y.restore(0);
                y.undo();
                return y;
            });
        }
        ClauseWatch never = Scene.NEVER.make();
        due("restore(0), from NEVER to OPEN", never.restore(0), 2);
        due("count(2)", never.count(2), 0);
        due("undo()", never.undo(), 3);
        due("count(2)", never.count(2), 2);
    }

    private static void noneToTwentyRestored() {
        for (int told = 0; told <= 20; told++) {
            ClauseWatch x = told == 0 ? new ClauseWatch() : Scene.told("1" + ";1".repeat(told - 1));
            x.save(told % 2);
            Due.reads(x, "2");
            due("restore", x.restore(told % 2), told);
            due("count(0)", x.count(0), told);
        }
        due("learned ones do not count: restore(1)", Scene.FULL.make().restore(1), 20);
    }

    private static void noSuchSlotToRestore() {
        for (int slot : NO_SLOTS) {
            Scene.FRESH.refuses("restore(" + slot + ")", x -> x.restore(slot), BAD_VALUE);
            Scene.FULL.refuses("restore(" + slot + ")", x -> x.restore(slot), BAD_VALUE);
        }
    }

    private static void nothingSaved() {
        for (int slot = 0; slot <= 1; slot++) {
            int number = slot;
            Scene.FRESH.refuses("restore(" + slot + ")", x -> x.restore(number), NOT_POSSIBLE);
            Scene.TWENTY.refuses("restore(" + slot + ")", x -> x.restore(number), NOT_POSSIBLE);
        }
        Scene refused = Scene.FRESH.then("save(2)", x -> x.save(2));
        refused.refuses("restore(0)", x -> x.restore(0), NOT_POSSIBLE);
        refused.refuses("restore(1)", x -> x.restore(1), NOT_POSSIBLE);
    }

    private static void savedInTheOtherSlotAlone() {
        Scene.MIDDLE.refuses("restore(1)", x -> x.restore(1), NOT_POSSIBLE);
        due("restore(0)", Scene.MIDDLE.make().restore(0), 3);
        Scene.FITS.refuses("restore(0)", x -> x.restore(0), NOT_POSSIBLE);
        due("restore(1)", Scene.FITS.make().restore(1), 0);
    }
}
