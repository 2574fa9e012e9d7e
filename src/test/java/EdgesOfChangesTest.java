/** The boundary cases of the promises 1 to 6. */
public final class EdgesOfChangesTest {
    private static final int NO_SUCH = -1, BAD_VALUE = -2, BAD_TEXT = -3, TOO_MANY = -4, NOT_POSSIBLE = -5, NONE = -6;
    private static final int LEAST = Integer.MIN_VALUE, MOST = Integer.MAX_VALUE;

    private EdgesOfChangesTest() {
    }

    public static void main(String[] args) {
        sentences().run("EdgesOfChangesTest");
    }

    static Sentences sentences() {
        Sentences s = new Sentences();
        s.under("Promise 1: A new object");
        s.test("`ClauseWatch()`: Creates a search of 4 things without clauses.", EdgesOfChangesTest::newNumbers,
                EdgesOfChangesTest::newThings, EdgesOfChangesTest::newAnswers, EdgesOfChangesTest::newIsEmpty,
                EdgesOfChangesTest::newObjectsShareNothing, EdgesOfChangesTest::twoInTurns);
        promise2(s);
        promise3(s);
        promise4(s);
        promise5(s);
        promise6(s);
        return s;
    }

    private static void promise2(Sentences s) {
        s.under("Promise 2: set");
        s.test("Changes a setting.", EdgesOfChangesTest::changesThatSettingAlone);
        s.test("This is a change.", EdgesOfChangesTest::setIsAChange);
        s.test("`setting`: 0 THINGS, 1 RESTART, 2 FIRST", EdgesOfChangesTest::settings,
                EdgesOfChangesTest::noSuchSetting);
        s.test("Returns the previous value", EdgesOfChangesTest::previousValues);
        s.test("BAD_VALUE if there is no such setting, or the value is out of its range",
                EdgesOfChangesTest::noSuchSetting, EdgesOfChangesTest::rangeOfThings,
                EdgesOfChangesTest::rangeOfRestart, EdgesOfChangesTest::rangeOfFirst, EdgesOfTermsTest::orderOfSet);
        s.test("NOT_POSSIBLE if a told clause has a thing above the new THINGS.", EdgesOfChangesTest::eachThingTold,
                EdgesOfChangesTest::toldInAnyPlace, EdgesOfChangesTest::possibleWhenItIsDropped,
                EdgesOfChangesTest::learnedOnesDoNotMatter, EdgesOfChangesTest::possibleWithoutClauses);
    }

    private static void promise3(Sentences s) {
        s.under("Promise 3: read");
        s.test("Adds the clauses of the pad, and empties the pad.", EdgesOfChangesTest::addsBehindTheOthers,
                EdgesOfChangesTest::emptiesThePad, EdgesOfChangesTest::refusedReadKeepsThePad);
        s.test("This is a change.", EdgesOfChangesTest::readIsAChange);
        s.test("Returns how many told clauses there are then", EdgesOfChangesTest::oneToTwentyToldThen);
        s.test("BAD_TEXT if the pad has a fault", EdgesOfChangesTest::readsNoFault, EdgesOfTermsTest::orderOfRead);
        s.test("BAD_VALUE if a thing is above THINGS", EdgesOfChangesTest::eachThingAbove,
                EdgesOfChangesTest::thingAboveInAnyPlace, EdgesOfTermsTest::orderOfRead);
        s.test("TOO_MANY if there would be more than 20.", EdgesOfChangesTest::everySumOfClauses,
                EdgesOfChangesTest::tooManyWhenFull);
    }

    private static void promise4(Sentences s) {
        s.under("Promise 4: drop");
        s.test("Takes a told clause away.", EdgesOfChangesTest::dropsTheFirst, EdgesOfChangesTest::dropsTheLast,
                EdgesOfChangesTest::dropsEachOfTwenty);
        s.test("This is a change.", EdgesOfChangesTest::dropIsAChange);
        s.test("Returns how many told clauses there are then", EdgesOfChangesTest::nineteenToNoneThen);
        s.test("NO_SUCH if there is no such told clause.", EdgesOfChangesTest::nothingToDrop,
                EdgesOfChangesTest::noSuchClauseToDrop, EdgesOfChangesTest::noLearnedClauseToDrop);
    }

    private static void promise5(Sentences s) {
        s.under("Promise 5: step");
        s.test("Does steps, as long as the search is open.", EdgesOfChangesTest::stopsWhenItFits,
                EdgesOfChangesTest::stopsWhenNever, EdgesOfChangesTest::noStepBehindTheEnd);
        s.test("This is a change.", EdgesOfChangesTest::stepIsAChange);
        s.test("`steps`: 1 to 500, at most so many", EdgesOfChangesTest::oneStep,
                EdgesOfChangesTest::fiveHundredSteps, EdgesOfChangesTest::stepsAddUp);
        s.test("Returns how the search stands then", EdgesOfChangesTest::standsThen);
        s.test("BAD_VALUE if steps is out of range.", EdgesOfChangesTest::noStep, EdgesOfChangesTest::tooManySteps);
    }

    private static void promise6(Sentences s) {
        s.under("Promise 6: back");
        s.test("Goes back to a level: all values with a greater level go", EdgesOfChangesTest::backToEachLevel,
                EdgesOfChangesTest::backKeepsWhatFollows);
        s.test("the search is open then.", EdgesOfChangesTest::openWhenItFitted, EdgesOfChangesTest::openWhenOpen);
        s.test("(What was learned stays.)", EdgesOfChangesTest::learnedStays);
        s.test("This is a change.", EdgesOfChangesTest::backIsAChange);
        s.test("`level`: 0 to the present level", EdgesOfChangesTest::backToEachLevel,
                EdgesOfChangesTest::backToThePresentLevel, EdgesOfChangesTest::backAtLevel0);
        s.test("Returns how many values are left", EdgesOfChangesTest::noneToNineLeft);
        s.test("BAD_VALUE if level is out of range", EdgesOfChangesTest::levelsOutOfRange,
                EdgesOfTermsTest::orderOfBack);
        s.test("NOT_POSSIBLE if the search is NEVER.", EdgesOfChangesTest::notBackFromNever);
    }

    private static void due(String call, long got, long want) {
        Due.due(call, got, want);
    }

    /** Recorded, also where nothing is different then: one more to undo (six at most), and undo brings back. */
    private static void dueChange(Scene scene, String call, Scene.Call does) {
        ClauseWatch x = scene.make();
        int before = x.count(11);
        due(call + " is no error", does.on(x) >= 0 ? 1 : 0, 1);
        int now = Math.min(before + 1, 6);
        due(call + " is recorded: count(11)", x.count(11), now);
        due("undo() of " + call, x.undo(), now - 1);
        scene.sameSearchAs("behind " + call + " and undo()", () -> {
            ClauseWatch y = scene.make();
            does.on(y);
            y.undo();
            return y;
        });
    }

    // ---- Promise 1

    private static void newNumbers() {
        int[] want = {0, 0, 0, 0, 0, 0, 0, 4, 10, 0, 0, 0};
        for (int what = 0; what < want.length; what++) {
            due("count(" + what + ")", new ClauseWatch().count(what), want[what]);
        }
    }

    private static void newThings() {
        ClauseWatch x = new ClauseWatch();
        for (int what = 0; what <= 3; what++) {
            due("of(0, " + what + ")", x.of(0, what), NO_SUCH);
            due("of(1, " + what + ")", x.of(1, what), NONE);
            due("of(4, " + what + ")", x.of(4, what), NONE);
            due("of(5, " + what + ")", x.of(5, what), NO_SUCH);
        }
        due("step(500)", x.step(500), 1);
        due("four values", x.count(4), 4);
    }

    private static void newAnswers() {
        ClauseWatch x = new ClauseWatch();
        due("answers()", x.answers(), 16);
        due("needless()", x.needless(), 0);
        due("inAnswers(4, 0)", x.inAnswers(4, 0), 8);
        due("inAnswers(4, 1)", x.inAnswers(4, 1), 0);
        due("searched(0, 0)", x.searched(0, 0), 5);
        due("ifTold(14)", x.ifTold(14), 1);
    }

    private static void newIsEmpty() {
        ClauseWatch x = new ClauseWatch();
        due("trail(0)", x.trail(0), NO_SUCH);
        due("clause(0, 0)", x.clause(0, 0), NO_SUCH);
        due("drop(0)", x.drop(0), NO_SUCH);
        due("follows(0)", x.follows(0), NO_SUCH);
        due("back(0)", new ClauseWatch().back(0), 0);
        due("back(1)", x.back(1), BAD_VALUE);
        due("read()", x.read(), BAD_TEXT);
        due("fault()", x.fault(), 0);
        due("wipe()", x.wipe(), 0);
        due("undo()", x.undo(), NOT_POSSIBLE);
        due("restore(0)", x.restore(0), NOT_POSSIBLE);
        due("restore(1)", x.restore(1), NOT_POSSIBLE);
    }

    private static void newObjectsShareNothing() {
        ClauseWatch kept = new ClauseWatch();
        for (Scene scene : new Scene[] {Scene.MIDDLE, Scene.FULL, Scene.FITS, Scene.NEVER}) {
            scene.make();
        }
        Scene.FRESH.sameAs("a new object behind others", ClauseWatch::new);
        due("an object that was made ahead of others: step(500)", kept.step(500), 1);
        due("count(6)", kept.count(6), 5);
    }

    /** Two objects in turns: neither one's settings, pads, histories and slots are seen in the other one. */
    private static void twoInTurns() {
        ClauseWatch one = new ClauseWatch();
        ClauseWatch two = new ClauseWatch();
        for (int value = 1; value <= 5; value++) {
            one.set(1, value);
            two.set(1, 20 - value);
            one.put('1');
            due("save(0)", one.save(0), 0);
        }
        due("restore(0)", two.restore(0), NOT_POSSIBLE);
        due("count(10)", two.count(10), 0);
        due("count(10)", one.count(10), 5);
        for (int left = 4; left >= 0; left--) {
            due("undo()", one.undo(), left);
            due("undo()", two.undo(), left);
            due("RESTART", one.count(8), left == 0 ? 10 : left);
            due("RESTART", two.count(8), left == 0 ? 10 : 20 - left);
        }
        due("restore(0)", one.restore(0), 0);
        due("RESTART", one.count(8), 5);
        due("RESTART", two.count(8), 10);
    }

    // ---- Promise 2

    private static void changesThatSettingAlone() {
        for (int setting = 0; setting <= 2; setting++) {
            ClauseWatch x = new ClauseWatch();
            int[] want = {4, 10, 0};
            want[setting] = 1;
            x.set(setting, 1);
            for (int i = 0; i <= 2; i++) {
                due("count(" + (7 + i) + ") behind set(" + setting + ", 1)", x.count(7 + i), want[i]);
            }
        }
    }

    private static void setIsAChange() {
        for (Scene scene : new Scene[] {Scene.FRESH, Scene.MIDDLE, Scene.FULL, Scene.FITS, Scene.NEVER}) {
            dueChange(scene, "set(0, 9)", x -> x.set(0, 9));
            dueChange(scene, "set(0, what it is)", x -> x.set(0, x.count(7)));
            dueChange(scene, "set(1, 20)", x -> x.set(1, 20));
            dueChange(scene, "set(1, what it is)", x -> x.set(1, x.count(8)));
            dueChange(scene, "set(2, 1)", x -> x.set(2, 1));
            dueChange(scene, "set(2, what it is)", x -> x.set(2, x.count(9)));
        }
    }

    private static void settings() {
        ClauseWatch x = new ClauseWatch();
        due("set(0, 9)", x.set(0, 9), 4);
        due("set(1, 20)", x.set(1, 20), 10);
        due("set(2, 0)", x.set(2, 0), 0);
        due("the setting 0 is how many things there are: answers()", x.answers(), 512);
    }

    private static void noSuchSetting() {
        for (int setting : new int[] {LEAST, -3, -2, -1, 3, 4, 7, 8, 9, MOST}) {
            Scene.FRESH.refuses("set(" + setting + ", 1)", x -> x.set(setting, 1), BAD_VALUE);
            Scene.MIDDLE.refuses("set(" + setting + ", 0)", x -> x.set(setting, 0), BAD_VALUE);
        }
    }

    private static void previousValues() {
        ClauseWatch x = new ClauseWatch();
        int[][] calls = {{0, 9, 4}, {0, 9, 9}, {0, 1, 9}, {0, 4, 1}, {1, 20, 10}, {1, 20, 20}, {1, 1, 20}, {1, 10, 1},
            {2, 1, 0}, {2, 1, 1}, {2, 0, 1}, {2, 0, 0}};
        for (int[] call : calls) {
            due("set(" + call[0] + ", " + call[1] + ")", x.set(call[0], call[1]), call[2]);
            due("count(" + (7 + call[0]) + ")", x.count(7 + call[0]), call[1]);
        }
    }

    private static void range(int setting, int least, int most) {
        for (int value = least; value <= most; value++) {
            ClauseWatch x = new ClauseWatch();
            due("set(" + setting + ", " + value + ") is taken", x.set(setting, value) >= 0 ? 1 : 0, 1);
            due("count(" + (7 + setting) + ")", x.count(7 + setting), value);
        }
        for (int value : new int[] {LEAST, -most, least - 1, most + 1, most + 2, MOST}) {
            Scene.FRESH.refuses("set(" + setting + ", " + value + ")", x -> x.set(setting, value), BAD_VALUE);
            Scene.FULL.refuses("set(" + setting + ", " + value + ")", x -> x.set(setting, value), BAD_VALUE);
        }
    }

    private static void rangeOfThings() {
        range(0, 1, 9);
    }

    private static void rangeOfRestart() {
        range(1, 1, 20);
    }

    private static void rangeOfFirst() {
        range(2, 0, 1);
    }

    private static void eachThingTold() {
        for (int thing = 2; thing <= 9; thing++) {
            for (String minus : new String[] {"", "-"}) {
                String clause = minus + thing;
                Scene one = new Scene(clause + " is told", () -> Scene.told(9, clause));
                int told = thing;
                one.refuses("set(0, " + (thing - 1) + ")", x -> x.set(0, told - 1), NOT_POSSIBLE);
                one.refuses("set(0, 1)", x -> x.set(0, 1), NOT_POSSIBLE);
                due("set(0, " + thing + ") with " + clause, one.make().set(0, thing), 9);
            }
        }
    }

    private static void toldInAnyPlace() {
        for (String clauses : new String[] {"5;1;2", "1;5;2", "1;2;5", "1,2,5;1;2", "1;2;-3,4,-5"}) {
            Scene scene = new Scene(clauses, () -> Scene.told(9, clauses));
            scene.refuses("set(0, 4)", x -> x.set(0, 4), NOT_POSSIBLE);
            due("set(0, 5) with " + clauses, scene.make().set(0, 5), 9);
        }
        Scene lastOfTwenty = new Scene("the last of twenty", () -> Scene.told(9, "1;".repeat(19) + "9"));
        lastOfTwenty.refuses("set(0, 8)", x -> x.set(0, 8), NOT_POSSIBLE);
        Scene firstOfTwenty = new Scene("the first of twenty", () -> Scene.told(9, "9" + ";1".repeat(19)));
        firstOfTwenty.refuses("set(0, 8)", x -> x.set(0, 8), NOT_POSSIBLE);
    }

    private static void possibleWhenItIsDropped() {
        ClauseWatch x = Scene.told(9, "1;9;3");
        due("set(0, 8)", x.set(0, 8), NOT_POSSIBLE);
        x.drop(1);
        due("set(0, 2)", x.set(0, 2), NOT_POSSIBLE);
        due("set(0, 3)", x.set(0, 3), 9);
        x.drop(1);
        due("set(0, 1)", x.set(0, 1), 3);
    }

    /** 8 was learned from the first two; when they are dropped, nothing told has a thing above 1. */
    private static void learnedOnesDoNotMatter() {
        ClauseWatch x = Scene.told(9, "8,9;8,-9;1");
        x.step(500);
        EdgesOfTermsTest.dueSigns(x, 3, 8);
        due("set(0, 8)", x.set(0, 8), NOT_POSSIBLE);
        x.drop(0);
        x.drop(0);
        due("set(0, 1)", x.set(0, 1), 9);
        x = Scene.told(9, "9;1");
        x.drop(0);
        due("set(0, 1), the last has moved up", x.set(0, 1), 9);
        x = Scene.told(9, "1;9");
        x.drop(1);
        due("set(0, 1), the last has gone", x.set(0, 1), 9);
    }

    private static void possibleWithoutClauses() {
        ClauseWatch x = new ClauseWatch();
        due("set(0, 1)", x.set(0, 1), 4);
        due("the pad does not matter", Due.puts(x, "9"), 1);
        due("set(0, 1)", x.set(0, 1), 1);
        x = Scene.FITS.make();
        due("values do not matter: set(0, 1)", x.set(0, 1), 9);
        due("count(4)", x.count(4), 0);
    }

    // ---- Promise 3

    private static void addsBehindTheOthers() {
        ClauseWatch x = Scene.told(9, "1,2,3,4,5,6,7,8,9;-9");
        due("read()", Due.reads(x, "-1,-2,-3,-4,-5,-6,-7,-8,-9;3"), 4);
        EdgesOfTermsTest.dueSigns(x, 0, 1, 2, 3, 4, 5, 6, 7, 8, 9);
        EdgesOfTermsTest.dueSigns(x, 1, 19);
        EdgesOfTermsTest.dueSigns(x, 2, 11, 12, 13, 14, 15, 16, 17, 18, 19);
        EdgesOfTermsTest.dueSigns(x, 3, 3);
        due("the same once more is one more", Due.reads(x, "3"), 5);
    }

    private static void emptiesThePad() {
        ClauseWatch x = new ClauseWatch();
        Due.puts(x, "1;2");
        due("read()", x.read(), 2);
        due("count(10)", x.count(10), 0);
        due("fault()", x.fault(), 0);
        due("wipe()", x.wipe(), 0);
        due("read()", x.read(), BAD_TEXT);
        due("put", x.put('3'), 1);
        due("read()", x.read(), 3);
        EdgesOfTermsTest.dueSigns(x, 2, 3);
    }

    private static void refusedReadKeepsThePad() {
        Scene.FRESH.withPad("1;2,").refuses("read()", ClauseWatch::read, BAD_TEXT);
        Scene.FRESH.withPad("1;2,5").refuses("read()", ClauseWatch::read, BAD_VALUE);
        Scene.TWENTY.withPad("1,-3").refuses("read()", ClauseWatch::read, TOO_MANY);
        ClauseWatch x = Scene.FRESH.withPad("1;2,5").make();
        x.read();
        due("count(10)", x.count(10), 5);
        x.set(0, 5);
        due("read()", x.read(), 2);
        EdgesOfTermsTest.dueSigns(x, 1, 2, 5);
    }

    private static void readIsAChange() {
        for (Scene scene : new Scene[] {Scene.FRESH, Scene.MIDDLE, Scene.FITS, Scene.NEVER}) {
            dueChange(scene, "read of 1", x -> Due.reads(x, "1"));
            dueChange(scene, "read of three", x -> Due.reads(x, "1;-2;3,-4"));
        }
        Scene nineteen = Scene.FULL.then("drop(0)", x -> x.drop(0));
        dueChange(nineteen, "read of 9, the twentieth", x -> Due.reads(x, "9"));
    }

    private static void oneToTwentyToldThen() {
        ClauseWatch x = new ClauseWatch();
        for (int told = 1; told <= 20; told++) {
            due("read()", Due.reads(x, "1"), told);
            due("count(0)", x.count(0), told);
        }
        due("twenty at once", Due.reads(new ClauseWatch(), "1" + ";2".repeat(19)), 20);
    }

    private static void readsNoFault() {
        for (String text : new String[] {"", "-", "1,", "1;", "!", "1!", "0", "1,1", "2,1", "9,", "1;;2"}) {
            Scene.FRESH.withPad(text).refuses("read()", ClauseWatch::read, BAD_TEXT);
        }
        Scene.MIDDLE.withPad("").refuses("read()", ClauseWatch::read, BAD_TEXT);
        Scene.FULL.withPad("1;".repeat(30)).refuses("read()", ClauseWatch::read, BAD_TEXT);
        due("without a fault", Due.reads(new ClauseWatch(), "1"), 1);
    }

    private static void eachThingAbove() {
        for (int things = 1; things <= 8; things++) {
            int n = things;
            Scene scene = new Scene(things + " things", () -> {
                ClauseWatch x = new ClauseWatch();
                x.set(0, n);
                return x;
            });
            scene.withPad("" + (n + 1)).refuses("read()", ClauseWatch::read, BAD_VALUE);
            scene.withPad("-" + (n + 1)).refuses("read()", ClauseWatch::read, BAD_VALUE);
            scene.withPad("9").refuses("read()", ClauseWatch::read, BAD_VALUE);
            due("the last thing of " + n, scene.withPad(n + ";-" + n).make().read(), 2);
        }
    }

    private static void thingAboveInAnyPlace() {
        for (String text : new String[] {"5;1", "1;5", "1,2,3,4,5;1", "1;2;1,-5", "1;-5,6;2"}) {
            Scene.FRESH.withPad(text).refuses("read()", ClauseWatch::read, BAD_VALUE);
        }
        due("none above", Due.reads(new ClauseWatch(), "1,2,3,4;-4"), 2);
    }

    private static void everySumOfClauses() {
        for (int told = 1; told <= 20; told++) {
            for (int more = 1; more <= 21; more++) {
                ClauseWatch x = Scene.told("1" + ";1".repeat(told - 1));
                int want = told + more <= 20 ? told + more : TOO_MANY;
                due(told + " told, read of " + more, Due.reads(x, "2" + ";2".repeat(more - 1)), want);
                due("count(0)", x.count(0), want == TOO_MANY ? told : want);
                due("count(10)", x.count(10), want == TOO_MANY ? 2 * more - 1 : 0);
            }
        }
    }

    private static void tooManyWhenFull() {
        Scene.FULL.refuses("read()", ClauseWatch::read, TOO_MANY);
        Scene.FULL.withPad("1").refuses("read()", ClauseWatch::read, TOO_MANY);
        Scene.FRESH.withPad("1" + ";1".repeat(20)).refuses("read() of 21", ClauseWatch::read, TOO_MANY);
        Scene.FRESH.withPad(Scene.SIXTY_CHARACTERS).refuses("read() of 30", ClauseWatch::read, TOO_MANY);
    }

    // ---- Promise 4

    private static void dropsTheFirst() {
        ClauseWatch x = Scene.told("1;2;-3,4");
        due("drop(0)", x.drop(0), 2);
        EdgesOfTermsTest.dueSigns(x, 0, 2);
        EdgesOfTermsTest.dueSigns(x, 1, 13, 4);
        due("clause(2, 0)", x.clause(2, 0), NO_SUCH);
    }

    private static void dropsTheLast() {
        ClauseWatch x = Scene.told("1;2;-3,4");
        due("drop(2)", x.drop(2), 2);
        EdgesOfTermsTest.dueSigns(x, 0, 1);
        EdgesOfTermsTest.dueSigns(x, 1, 2);
        due("clause(2, 0)", x.clause(2, 0), NO_SUCH);
        ClauseWatch one = Scene.told("1");
        due("drop(0), the only one", one.drop(0), 0);
        due("clause(0, 0)", one.clause(0, 0), NO_SUCH);
        due("answers()", one.answers(), 16);
    }

    /** Those that stay keep their order; those behind the one that goes move up. */
    private static void dropsEachOfTwenty() {
        for (int gone = 0; gone < 20; gone++) {
            ClauseWatch x = Scene.told(9, Scene.LEARNS_SIXTY);
            ClauseWatch whole = Scene.told(9, Scene.LEARNS_SIXTY);
            due("drop(" + gone + ")", x.drop(gone), 19);
            for (int clause = 0; clause < 19; clause++) {
                for (int place = 0; place <= 5; place++) {
                    int want = whole.clause(clause < gone ? clause : clause + 1, place);
                    due("clause(" + clause + ", " + place + ")", x.clause(clause, place), want);
                }
            }
            due("clause(19, 0)", x.clause(19, 0), NO_SUCH);
        }
    }

    private static void dropIsAChange() {
        for (Scene scene : new Scene[] {Scene.MIDDLE, Scene.FULL, Scene.TWENTY, Scene.NEVER}) {
            dueChange(scene, "drop(0)", x -> x.drop(0));
            dueChange(scene, "drop(1)", x -> x.drop(1));
            dueChange(scene, "drop of the last", x -> x.drop(x.count(0) - 1));
        }
    }

    private static void nineteenToNoneThen() {
        ClauseWatch x = Scene.twenty();
        for (int left = 19; left >= 0; left--) {
            due("drop(0)", x.drop(0), left);
            due("count(0)", x.count(0), left);
        }
    }

    private static void nothingToDrop() {
        Scene.FRESH.refuses("drop(0)", x -> x.drop(0), NO_SUCH);
        Scene.FITS.refuses("drop(0)", x -> x.drop(0), NO_SUCH);
        new Scene("the only one has gone", () -> {
            ClauseWatch x = Scene.told("1");
            x.drop(0);
            return x;
        }).refuses("drop(0)", x -> x.drop(0), NO_SUCH);
    }

    private static void noSuchClauseToDrop() {
        for (int clause : new int[] {LEAST, -1, 20, 21, 39, 40, 59, 60, 61, MOST}) {
            Scene.TWENTY.refuses("drop(" + clause + ")", x -> x.drop(clause), NO_SUCH);
        }
        for (int clause : new int[] {LEAST, -1, 2, 3, MOST}) {
            Scene.NEVER.refuses("drop(" + clause + ")", x -> x.drop(clause), NO_SUCH);
        }
        due("the last of twenty", Scene.twenty().drop(19), 19);
    }

    private static void noLearnedClauseToDrop() {
        Scene.MIDDLE.refuses("drop(3)", x -> x.drop(3), NO_SUCH);
        due("the last told one", Scene.MIDDLE.make().drop(2), 2);
        for (int clause : new int[] {20, 21, 40, 59, 60}) {
            Scene.FULL.refuses("drop(" + clause + ")", x -> x.drop(clause), NO_SUCH);
        }
    }

    // ---- Promise 5

    private static void stopsWhenItFits() {
        for (int steps : new int[] {5, 6, 499, 500}) {
            ClauseWatch x = new ClauseWatch();
            due("step(" + steps + ")", x.step(steps), 1);
            due("count(6)", x.count(6), 5);
            due("count(4)", x.count(4), 4);
        }
    }

    private static void stopsWhenNever() {
        for (int steps : new int[] {2, 3, 500}) {
            ClauseWatch x = Scene.told("1;-1");
            due("step(" + steps + ")", x.step(steps), 2);
            due("count(6)", x.count(6), 2);
        }
    }

    private static void noStepBehindTheEnd() {
        for (Scene scene : new Scene[] {Scene.FITS, Scene.NEVER}) {
            int stands = scene.make().count(2);
            for (int steps : new int[] {1, 2, 500}) {
                due("step(" + steps + ")", scene.make().step(steps), stands);
                scene.sameSearchAs("behind step(" + steps + ")", () -> {
                    ClauseWatch x = scene.make();
                    x.step(steps);
                    return x;
                });
            }
        }
    }

    private static void stepIsAChange() {
        for (Scene scene : new Scene[] {Scene.FRESH, Scene.MIDDLE, Scene.FULL, Scene.FITS, Scene.NEVER}) {
            dueChange(scene, "step(1)", x -> x.step(1));
            dueChange(scene, "step(500)", x -> x.step(500));
        }
    }

    private static void oneStep() {
        ClauseWatch x = new ClauseWatch();
        for (int done = 1; done <= 5; done++) {
            due("step(1)", x.step(1), done == 5 ? 1 : 0);
            due("count(6)", x.count(6), done);
            due("count(4)", x.count(4), Math.min(done, 4));
        }
    }

    private static void fiveHundredSteps() {
        for (int steps : new int[] {499, 500}) {
            ClauseWatch x = Scene.told(9, HardSearchTest.ENDS_AT_2001);
            x.set(1, 1);
            due("step(" + steps + ")", x.step(steps), 0);
            due("count(6)", x.count(6), steps);
            due("count(11)", x.count(11), 6);
        }
    }

    private static void stepsAddUp() {
        ClauseWatch x = Scene.told(9, HardSearchTest.ENDS_AT_2001);
        x.set(1, 1);
        int done = 0;
        for (int steps : new int[] {1, 2, 3, 5, 8, 13, 21, 34, 55, 89, 144, 233, 377, 500}) {
            done += steps;
            due("step(" + steps + ")", x.step(steps), 0);
            due("count(6)", x.count(6), done);
        }
        ClauseWatch atOnce = Scene.told(9, HardSearchTest.ENDS_AT_2001);
        atOnce.set(1, 1);
        atOnce.step(500);
        atOnce.step(500);
        atOnce.step(485);
        due("steps", atOnce.count(6), done);
        for (int thing = 1; thing <= 9; thing++) {
            for (int what = 0; what <= 3; what++) {
                due("of(" + thing + ", " + what + ")", x.of(thing, what), atOnce.of(thing, what));
            }
        }
    }

    private static void standsThen() {
        ClauseWatch x = new ClauseWatch();
        due("step(4)", x.step(4), 0);
        due("step(1)", x.step(1), 1);
        due("step(1)", x.step(1), 1);
        x = Scene.told("1;-1");
        due("step(1)", x.step(1), 0);
        due("step(1)", x.step(1), 2);
        due("step(1)", x.step(1), 2);
    }

    private static void noStep() {
        for (int steps : new int[] {LEAST, -500, -1, 0}) {
            Scene.FRESH.refuses("step(" + steps + ")", x -> x.step(steps), BAD_VALUE);
            Scene.FULL.refuses("step(" + steps + ")", x -> x.step(steps), BAD_VALUE);
            Scene.FITS.refuses("step(" + steps + ")", x -> x.step(steps), BAD_VALUE);
            Scene.NEVER.refuses("step(" + steps + ")", x -> x.step(steps), BAD_VALUE);
        }
    }

    private static void tooManySteps() {
        for (int steps : new int[] {501, 502, 1000, 2000, 2001, MOST}) {
            Scene.FRESH.refuses("step(" + steps + ")", x -> x.step(steps), BAD_VALUE);
            Scene.FULL.refuses("step(" + steps + ")", x -> x.step(steps), BAD_VALUE);
            Scene.FITS.refuses("step(" + steps + ")", x -> x.step(steps), BAD_VALUE);
            Scene.NEVER.refuses("step(" + steps + ")", x -> x.step(steps), BAD_VALUE);
        }
    }

    // ---- Promise 6

    /** Nine things were decided, one at each level. */
    private static void backToEachLevel() {
        for (int level = 0; level <= 9; level++) {
            ClauseWatch x = Scene.FITS.make();
            due("back(" + level + ")", x.back(level), level);
            due("count(3)", x.count(3), level);
            due("count(4)", x.count(4), level);
            for (int thing = 1; thing <= 9; thing++) {
                due("of(" + thing + ", 1)", x.of(thing, 1), thing <= level ? thing : NONE);
            }
            due("trail(" + level + ")", x.trail(level), NO_SUCH);
        }
    }

    /** 4 is told at the level 0; at the level 1, 2 follows from 1; at the level 2, 5 follows from 3; then 6. */
    private static void backKeepsWhatFollows() {
        int[] left = {1, 3, 5, 6};
        for (int level = 0; level <= 3; level++) {
            ClauseWatch x = Scene.told(6, "4;1,2;3,5");
            x.step(500);
            due("count(3)", x.count(3), 3);
            due("back(" + level + ")", x.back(level), left[level]);
            due("count(3)", x.count(3), level);
            for (int place = 0; place < 6; place++) {
                int want = place < left[level] ? new int[] {4, 1, 2, 3, 5, 6}[place] : NO_SUCH;
                due("trail(" + place + ")", x.trail(place), want);
            }
        }
    }

    private static void openWhenItFitted() {
        for (int level = 0; level <= 9; level++) {
            ClauseWatch x = Scene.FITS.make();
            x.back(level);
            due("count(2) behind back(" + level + ")", x.count(2), 0);
            due("steps stay", x.count(6), 10);
            due("step(" + (9 - level + 1) + ")", x.step(9 - level + 1), 1);
            due("count(6)", x.count(6), 10 + 9 - level + 1);
        }
    }

    private static void openWhenOpen() {
        ClauseWatch x = Scene.FULL.make();
        due("back(1)", x.back(1), 4);
        due("count(2)", x.count(2), 0);
        due("back(0)", x.back(0), 2);
        due("count(2)", x.count(2), 0);
    }

    private static void learnedStays() {
        ClauseWatch x = Scene.MIDDLE.make();
        due("back(0)", x.back(0), 0);
        EdgesOfSearchTest.dueSearch(x, 3, 1, 0, 0, 0, 1, 6);
        EdgesOfTermsTest.dueSigns(x, 3, 1, 13);
        ClauseWatch full = Scene.FULL.make();
        ClauseWatch other = Scene.FULL.make();
        due("back(0)", full.back(0), 2);
        EdgesOfSearchTest.dueSearch(full, 20, 40, 0, 0, 2, 48, 270);
        for (int clause = 20; clause < 60; clause++) {
            for (int place = 0; place <= 3; place++) {
                due("clause(" + clause + ", " + place + ")", full.clause(clause, place), other.clause(clause, place));
            }
        }
    }

    private static void backIsAChange() {
        for (Scene scene : new Scene[] {Scene.FRESH, Scene.MIDDLE, Scene.FULL, Scene.FITS}) {
            dueChange(scene, "back(0)", x -> x.back(0));
            dueChange(scene, "back(to where it is)", x -> x.back(x.count(3)));
        }
    }

    private static void backToThePresentLevel() {
        ClauseWatch x = Scene.MIDDLE.make();
        due("back(1)", x.back(1), 2);
        EdgesOfSearchTest.dueSearch(x, 3, 1, 0, 1, 2, 1, 6);
        x = Scene.FITS.make();
        due("back(9)", x.back(9), 9);
        EdgesOfSearchTest.dueSearch(x, 0, 0, 0, 9, 9, 0, 10);
    }

    private static void backAtLevel0() {
        ClauseWatch x = Scene.told("2");
        due("back(0), no value", x.back(0), 0);
        x.step(1);
        due("back(0), a value of the level 0", x.back(0), 1);
        due("of(2, 0)", x.of(2, 0), 1);
        Scene one = new Scene("a value of the level 0", () -> {
            ClauseWatch y = Scene.told("2");
            y.step(1);
            return y;
        });
        one.refuses("back(1)", y -> y.back(1), BAD_VALUE);
    }

    private static void noneToNineLeft() {
        for (int level = 0; level <= 9; level++) {
            due("back(" + level + ")", Scene.FITS.make().back(level), level);
        }
        due("back(0)", new ClauseWatch().back(0), 0);
        ClauseWatch x = Scene.told(9, "1;2;3;4;5;6;7;8;9");
        x.step(500);
        due("back(0), nine of the level 0", x.back(0), 9);
    }

    private static void levelsOutOfRange() {
        for (int level : new int[] {LEAST, -9, -1, 10, 11, MOST}) {
            Scene.FITS.refuses("back(" + level + ")", x -> x.back(level), BAD_VALUE);
        }
        for (int level : new int[] {LEAST, -1, 1, 2, MOST}) {
            Scene.FRESH.refuses("back(" + level + ")", x -> x.back(level), BAD_VALUE);
        }
        for (int level : new int[] {LEAST, -1, 3, 4, 9, MOST}) {
            Scene.FULL.refuses("back(" + level + ")", x -> x.back(level), BAD_VALUE);
        }
        for (int level : new int[] {LEAST, -1, 2, 3, MOST}) {
            Scene.MIDDLE.refuses("back(" + level + ")", x -> x.back(level), BAD_VALUE);
        }
    }

    private static void notBackFromNever() {
        Scene.NEVER.refuses("back(0)", x -> x.back(0), NOT_POSSIBLE);
        Scene learned = new Scene("never, behind a conflict", () -> {
            ClauseWatch x = Scene.told("1,2;1,-2;-1,2;-1,-2");
            x.step(500);
            return x;
        });
        learned.refuses("back(0)", x -> x.back(0), NOT_POSSIBLE);
        ClauseWatch x = Scene.told("1;-1");
        x.step(1);
        due("a step ahead of NEVER: back(0)", x.back(0), 1);
        due("step(1)", x.step(1), 2);
        x.undo();
        due("undone: back(0)", x.back(0), 1);
    }
}
