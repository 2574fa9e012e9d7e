/** The boundary cases of what the document says ahead of its promises, but for the search and the texts. */
public final class EdgesOfTermsTest {
    private static final int NO_SUCH = -1, BAD_VALUE = -2, BAD_TEXT = -3, TOO_MANY = -4, NOT_POSSIBLE = -5, NONE = -6;
    private static final int LEAST = Integer.MIN_VALUE, MOST = Integer.MAX_VALUE;

    private EdgesOfTermsTest() {
    }

    public static void main(String[] args) {
        sentences().run("EdgesOfTermsTest");
    }

    static Sentences sentences() {
        Sentences s = new Sentences();
        s.under("What it is");
        s.test("signs of up to nine things", EdgesOfTermsTest::nineThings);
        s.test("An object is used for at most 512 calls after it has been made", EdgesOfTermsTest::call512,
                EdgesOfTermsTest::dearestCalls512);
        s.under("Terms");
        s.test("A method that fails returns one of the error codes NO_SUCH (-1), BAD_VALUE (-2), BAD_TEXT (-3), "
                + "TOO_MANY (-4) and NOT_POSSIBLE (-5)", EdgesOfTermsTest::eachErrorCode);
        s.test("it names its errors in the order in which they are checked, and the first one that applies is "
                + "returned.", EdgesOfTermsTest::orderOfSet, EdgesOfTermsTest::orderOfRead,
                EdgesOfTermsTest::orderOfBack, EdgesOfTermsTest::orderOfOf, EdgesOfTermsTest::orderOfClause,
                EdgesOfTermsTest::orderOfInAnswers, EdgesOfTermsTest::orderOfIfTold, EdgesOfTermsTest::orderOfPut,
                EdgesOfTermsTest::orderOfRestore);
        s.test("A call that returns an error changes nothing.", EdgesOfTermsTest::errorsWhenNew,
                EdgesOfTermsTest::errorsInTheMiddle, EdgesOfTermsTest::errorsWhenFull,
                EdgesOfTermsTest::errorsWhenItFits, EdgesOfTermsTest::errorsWhenNever);
        s.test("NONE (-6) is not an error; it is returned only if no error applies.",
                EdgesOfTermsTest::noneOfOf, EdgesOfTermsTest::noneOfClause, EdgesOfTermsTest::noneOfSearched,
                EdgesOfTermsTest::noneOfFault);
        s.test("Everything is numbered from 0, but things, which are 1 to 9.", EdgesOfTermsTest::numbers,
                EdgesOfTermsTest::thingsFrom1To9);
        s.under("Settings");
        s.test("THINGS (1 to 9; 4).", EdgesOfTermsTest::thingsAtFirst, EdgesOfTermsTest::leastThings,
                EdgesOfTermsTest::mostThings);
        s.test("RESTART (1 to 20; 10).", EdgesOfTermsTest::restartAtFirst, EdgesOfTermsTest::leastRestart,
                EdgesOfTermsTest::mostRestart);
        s.test("FIRST (0 or 1; 0): the value that is tried first.", EdgesOfTermsTest::firstAtFirst,
                EdgesOfTermsTest::leastFirst, EdgesOfTermsTest::mostFirst);
        s.test("A thing has a value (1 or 0), or none yet.", EdgesOfTermsTest::values);
        s.test("A sign is a thing, told to be 1 (told by its number n), or to be 0 (told by 10 + n).",
                EdgesOfTermsTest::leastSigns, EdgesOfTermsTest::mostSigns, EdgesOfTermsTest::noSigns);
        s.test("A clause is 1 to 9 signs of unlike things, in ascending order of the things.",
                EdgesOfTermsTest::clauseOfOne, EdgesOfTermsTest::clauseOfNine, EdgesOfTermsTest::noClauseOfNothing,
                EdgesOfTermsTest::noLikeThings, EdgesOfTermsTest::learnedInOrder, EdgesOfTermsTest::learnedOfEight);
        s.test("A clause is true if one of its signs is as told, false if all of its things have values, and none "
                + "is as told.", EdgesOfTermsTest::neitherTrueNorFalse, EdgesOfTermsTest::trueByOneOfMany,
                EdgesOfTermsTest::falseByAll, EdgesOfTermsTest::notFalseWhileOneIsOpen);
        s.test("There are told clauses (up to 20) and learned ones (up to 40), in the order in which they came",
                EdgesOfTermsTest::upTo20, EdgesOfTermsTest::upTo40, EdgesOfTermsTest::inTheirOrder);
        s.test("all of them are numbered: first the told ones, then the learned ones.",
                EdgesOfTermsTest::noneToldNoneLearned, EdgesOfTermsTest::lastToldFirstLearned,
                EdgesOfTermsTest::allSixty);
        return s;
    }

    private static void due(String call, long got, long want) {
        Due.due(call, got, want);
    }

    // ---- What it is

    private static void nineThings() {
        ClauseWatch x = Scene.told(9, "9;-1");
        due("answers()", x.answers(), 128);
        due("step(500)", x.step(500), 1);
        due("nine values", x.count(4), 9);
        Scene.FRESH.refuses("set(0, 10)", y -> y.set(0, 10), BAD_VALUE);
        Scene.FITS.refuses("of(10, 0)", y -> y.of(10, 0), NO_SUCH);
        Scene.FITS.refuses("ifTold(20)", y -> y.ifTold(20), BAD_VALUE);
    }

    /** 7 calls, 504 changes, and what comes behind them as call 512. */
    private static void call512() {
        String[] names = {"set", "read", "drop", "step", "back", "of", "trail", "clause", "count", "answers",
            "inAnswers", "follows", "needless", "searched", "ifTold", "put", "wipe", "fault", "undo", "save",
            "restore"};
        Scene.Call[] calls = {x -> x.set(1, 20), ClauseWatch::read, x -> x.drop(2), x -> x.step(500), x -> x.back(1),
            x -> x.of(3, 2), x -> x.trail(1), x -> x.clause(3, 2), x -> x.count(11), ClauseWatch::answers,
            x -> x.inAnswers(1, 0), x -> x.follows(3), ClauseWatch::needless, x -> x.searched(0, 0),
            x -> x.ifTold(14), x -> x.put(';'), ClauseWatch::wipe, ClauseWatch::fault, ClauseWatch::undo,
            x -> x.save(1), x -> x.restore(0)};
        int[] answers = {10, 4, 2, 1, 2, 3, 3, 13, 6, 8, 6, 1, 0, 9, 1, 4, 3, NONE, 5, 3, 3};
        for (int i = 0; i < calls.length; i++) {
            ClauseWatch x = new ClauseWatch();
            for (long characters : Due.packed(Scene.LEARNS)) {
                x.put(characters);
            }
            x.read();
            x.save(0);
            x.step(6);
            x.put('1' << 16 | ',' << 8 | '2');
            for (int call = 8; call < 512; call++) {
                due("call " + call + ": set(1, 10)", x.set(1, 10), 10);
            }
            due("call 512: " + names[i], calls[i].on(x), answers[i]);
        }
    }

    private static void dearestCalls512() {
        ClauseWatch x = Scene.told(9, HardSearchTest.ENDS_AT_2001);
        x.set(1, 1);
        for (int call = 90; call < 512; call++) {
            due("searched(0, 0)", x.searched(0, 0), NONE);
        }
        due("answers()", x.answers(), 0);
    }

    // ---- CONVENTIONS

    private static void eachErrorCode() {
        due("NO_SUCH: drop(0)", new ClauseWatch().drop(0), -1);
        due("BAD_VALUE: step(0)", new ClauseWatch().step(0), -2);
        due("BAD_TEXT: read()", new ClauseWatch().read(), -3);
        due("TOO_MANY: ifTold(1)", Scene.twenty().ifTold(1), -4);
        due("NOT_POSSIBLE: undo()", new ClauseWatch().undo(), -5);
    }

    static void orderOfSet() {
        Scene one = new Scene("1 is told", () -> Scene.told("1"));
        one.refuses("set(0, 0), out of range and below a told thing", x -> x.set(0, 0), BAD_VALUE);
        one.refuses("set(0, -1)", x -> x.set(0, -1), BAD_VALUE);
        one.refuses("set(0, LEAST)", x -> x.set(0, LEAST), BAD_VALUE);
        one.refuses("set(3, 0), no such setting, and no such value of any", x -> x.set(3, 0), BAD_VALUE);
        Scene.FULL.refuses("set(0, 0)", x -> x.set(0, 0), BAD_VALUE);
        Scene.FULL.refuses("set(0, 8), only below a told thing", x -> x.set(0, 8), NOT_POSSIBLE);
    }

    static void orderOfRead() {
        Scene.TWENTY.withPad("5;").refuses("read(), all three", ClauseWatch::read, BAD_TEXT);
        Scene.TWENTY.withPad("1;").refuses("read(), a fault and too many", ClauseWatch::read, BAD_TEXT);
        Scene.FRESH.withPad("5,").refuses("read(), a fault and a thing above", ClauseWatch::read, BAD_TEXT);
        Scene.TWENTY.withPad("").refuses("read(), an empty pad and twenty told", ClauseWatch::read, BAD_TEXT);
        Scene.TWENTY.withPad("5").refuses("read(), a thing above and too many", ClauseWatch::read, BAD_VALUE);
        Scene.FRESH.withPad("1;".repeat(29) + "-5").refuses("read(), the last of thirty", ClauseWatch::read, BAD_VALUE);
        Scene.TWENTY.withPad("4").refuses("read(), too many alone", ClauseWatch::read, TOO_MANY);
    }

    static void orderOfBack() {
        Scene.NEVER.refuses("back(1), both", x -> x.back(1), BAD_VALUE);
        Scene.NEVER.refuses("back(-1), both", x -> x.back(-1), BAD_VALUE);
        Scene.NEVER.refuses("back(0), never alone", x -> x.back(0), NOT_POSSIBLE);
    }

    static void orderOfOf() {
        Scene.MIDDLE.refuses("of(0, 4), both", x -> x.of(0, 4), NO_SUCH);
        Scene.MIDDLE.refuses("of(6, -1), both", x -> x.of(6, -1), NO_SUCH);
        Scene.MIDDLE.refuses("of(5, 4), the second alone", x -> x.of(5, 4), BAD_VALUE);
    }

    static void orderOfClause() {
        Scene.MIDDLE.refuses("clause(4, 13), both", x -> x.clause(4, 13), NO_SUCH);
        Scene.MIDDLE.refuses("clause(-1, -1), both", x -> x.clause(-1, -1), NO_SUCH);
        Scene.MIDDLE.refuses("clause(3, 13), the second alone", x -> x.clause(3, 13), BAD_VALUE);
        Scene.FULL.refuses("clause(60, 13), both", x -> x.clause(60, 13), NO_SUCH);
    }

    static void orderOfInAnswers() {
        Scene.MIDDLE.refuses("inAnswers(0, 2), both", x -> x.inAnswers(0, 2), NO_SUCH);
        Scene.MIDDLE.refuses("inAnswers(6, -1), both", x -> x.inAnswers(6, -1), NO_SUCH);
        Scene.MIDDLE.refuses("inAnswers(5, 2), the second alone", x -> x.inAnswers(5, 2), BAD_VALUE);
    }

    static void orderOfIfTold() {
        for (int sign : new int[] {-1, 0, 5, 9, 10, 15, 19, 20, LEAST, MOST}) {
            Scene.TWENTY.refuses("ifTold(" + sign + "), both", x -> x.ifTold(sign), BAD_VALUE);
        }
        Scene.TWENTY.refuses("ifTold(4), too many alone", x -> x.ifTold(4), TOO_MANY);
        Scene.TWENTY.refuses("ifTold(14), too many alone", x -> x.ifTold(14), TOO_MANY);
    }

    static void orderOfPut() {
        for (long characters : new long[] {0, 32, 127, '1' << 8, 0x310031, 0x31313131_31313120L, -1}) {
            Scene.FULL.refuses("put(" + characters + "), both", x -> x.put(characters), BAD_VALUE);
        }
        Scene.FULL.refuses("put('1'), too many alone", x -> x.put('1'), TOO_MANY);
    }

    static void orderOfRestore() {
        Scene.FRESH.refuses("restore(2), both", x -> x.restore(2), BAD_VALUE);
        Scene.FRESH.refuses("restore(-1), both", x -> x.restore(-1), BAD_VALUE);
        Scene.FRESH.refuses("restore(1), nothing saved alone", x -> x.restore(1), NOT_POSSIBLE);
    }

    private static void errorsWhenNew() {
        Scene scene = Scene.FRESH;
        scene.refuses("set(3, 1)", x -> x.set(3, 1), BAD_VALUE);
        scene.refuses("set(0, 10)", x -> x.set(0, 10), BAD_VALUE);
        scene.refuses("read()", ClauseWatch::read, BAD_TEXT);
        scene.refuses("drop(0)", x -> x.drop(0), NO_SUCH);
        scene.refuses("step(0)", x -> x.step(0), BAD_VALUE);
        scene.refuses("back(1)", x -> x.back(1), BAD_VALUE);
        scene.refuses("of(5, 0)", x -> x.of(5, 0), NO_SUCH);
        scene.refuses("of(4, 4)", x -> x.of(4, 4), BAD_VALUE);
        scene.refuses("trail(0)", x -> x.trail(0), NO_SUCH);
        scene.refuses("clause(0, 0)", x -> x.clause(0, 0), NO_SUCH);
        scene.refuses("count(12)", x -> x.count(12), BAD_VALUE);
        scene.refuses("inAnswers(5, 0)", x -> x.inAnswers(5, 0), NO_SUCH);
        scene.refuses("inAnswers(4, 2)", x -> x.inAnswers(4, 2), BAD_VALUE);
        scene.refuses("follows(0)", x -> x.follows(0), NO_SUCH);
        scene.refuses("searched(2, 0)", x -> x.searched(2, 0), BAD_VALUE);
        scene.refuses("ifTold(5)", x -> x.ifTold(5), BAD_VALUE);
        scene.refuses("put(0)", x -> x.put(0), BAD_VALUE);
        scene.refuses("undo()", ClauseWatch::undo, NOT_POSSIBLE);
        scene.refuses("save(2)", x -> x.save(2), BAD_VALUE);
        scene.refuses("restore(2)", x -> x.restore(2), BAD_VALUE);
        scene.refuses("restore(0)", x -> x.restore(0), NOT_POSSIBLE);
    }

    private static void errorsInTheMiddle() {
        Scene scene = Scene.MIDDLE;
        scene.refuses("set(0, 3)", x -> x.set(0, 3), NOT_POSSIBLE);
        scene.refuses("set(1, 21)", x -> x.set(1, 21), BAD_VALUE);
        scene.refuses("set(2, 2)", x -> x.set(2, 2), BAD_VALUE);
        scene.withPad("1,2;1,").refuses("read()", ClauseWatch::read, BAD_TEXT);
        scene.withPad("1,2;3,6").refuses("read()", ClauseWatch::read, BAD_VALUE);
        scene.withPad("1;2;3;1;2;3;1;2;3;1;2;3;1;2;3;1;2;3").refuses("read()", ClauseWatch::read, TOO_MANY);
        scene.refuses("drop(3), a learned one", x -> x.drop(3), NO_SUCH);
        scene.refuses("step(501)", x -> x.step(501), BAD_VALUE);
        scene.refuses("back(2)", x -> x.back(2), BAD_VALUE);
        scene.refuses("trail(2)", x -> x.trail(2), NO_SUCH);
        scene.refuses("clause(3, 13)", x -> x.clause(3, 13), BAD_VALUE);
        scene.refuses("follows(4)", x -> x.follows(4), NO_SUCH);
        scene.refuses("searched(1, 3)", x -> x.searched(1, 3), BAD_VALUE);
        scene.refuses("ifTold(16)", x -> x.ifTold(16), BAD_VALUE);
        scene.refuses("put(127)", x -> x.put(127), BAD_VALUE);
        scene.refuses("save(-1)", x -> x.save(-1), BAD_VALUE);
        scene.refuses("restore(1)", x -> x.restore(1), NOT_POSSIBLE);
        scene.refuses("restore(-1)", x -> x.restore(-1), BAD_VALUE);
    }

    private static void errorsWhenFull() {
        Scene scene = Scene.FULL;
        scene.refuses("set(0, 8)", x -> x.set(0, 8), NOT_POSSIBLE);
        scene.refuses("set(1, 0)", x -> x.set(1, 0), BAD_VALUE);
        scene.refuses("set(2, -1)", x -> x.set(2, -1), BAD_VALUE);
        scene.refuses("read()", ClauseWatch::read, TOO_MANY);
        scene.withPad("9,").refuses("read()", ClauseWatch::read, BAD_TEXT);
        scene.refuses("drop(20), a learned one", x -> x.drop(20), NO_SUCH);
        scene.refuses("step(-1)", x -> x.step(-1), BAD_VALUE);
        scene.refuses("back(3)", x -> x.back(3), BAD_VALUE);
        scene.refuses("of(10, 0)", x -> x.of(10, 0), NO_SUCH);
        scene.refuses("of(9, -1)", x -> x.of(9, -1), BAD_VALUE);
        scene.refuses("trail(5)", x -> x.trail(5), NO_SUCH);
        scene.refuses("clause(60, 0)", x -> x.clause(60, 0), NO_SUCH);
        scene.refuses("follows(60)", x -> x.follows(60), NO_SUCH);
        scene.refuses("ifTold(9)", x -> x.ifTold(9), TOO_MANY);
        scene.refuses("ifTold(10)", x -> x.ifTold(10), BAD_VALUE);
        scene.refuses("put('1')", x -> x.put('1'), TOO_MANY);
        scene.refuses("save(2)", x -> x.save(2), BAD_VALUE);
        scene.refuses("restore(2)", x -> x.restore(2), BAD_VALUE);
    }

    private static void errorsWhenItFits() {
        Scene scene = Scene.FITS;
        scene.refuses("step(0)", x -> x.step(0), BAD_VALUE);
        scene.refuses("back(10)", x -> x.back(10), BAD_VALUE);
        scene.refuses("back(-1)", x -> x.back(-1), BAD_VALUE);
        scene.refuses("trail(9)", x -> x.trail(9), NO_SUCH);
        scene.refuses("drop(0)", x -> x.drop(0), NO_SUCH);
        scene.refuses("set(0, 10)", x -> x.set(0, 10), BAD_VALUE);
        scene.refuses("set(0, 0)", x -> x.set(0, 0), BAD_VALUE);
        scene.refuses("read()", ClauseWatch::read, BAD_TEXT);
        scene.refuses("restore(0)", x -> x.restore(0), NOT_POSSIBLE);
        Scene undone = scene.then("undo()", ClauseWatch::undo).then("undo()", ClauseWatch::undo);
        undone.refuses("undo(), all is undone", ClauseWatch::undo, NOT_POSSIBLE);
    }

    private static void errorsWhenNever() {
        Scene scene = Scene.NEVER;
        scene.refuses("step(501)", x -> x.step(501), BAD_VALUE);
        scene.refuses("back(0)", x -> x.back(0), NOT_POSSIBLE);
        scene.refuses("back(1)", x -> x.back(1), BAD_VALUE);
        scene.refuses("drop(2)", x -> x.drop(2), NO_SUCH);
        scene.refuses("read()", ClauseWatch::read, BAD_TEXT);
        scene.withPad("1,5").refuses("read()", ClauseWatch::read, BAD_VALUE);
        scene.refuses("set(0, 0)", x -> x.set(0, 0), BAD_VALUE);
        scene.refuses("restore(1)", x -> x.restore(1), NOT_POSSIBLE);
    }

    private static void noneOfOf() {
        ClauseWatch x = new ClauseWatch();
        due("of(4, 0), no value", x.of(4, 0), NONE);
        due("of(5, 0), no value, but no such thing, too", x.of(5, 0), NO_SUCH);
        due("of(4, 4), no value, but a bad value, too", x.of(4, 4), BAD_VALUE);
        due("of(4, -1), no value, but a bad value, too", x.of(4, -1), BAD_VALUE);
    }

    private static void noneOfClause() {
        ClauseWatch x = Scene.told("1");
        due("clause(0, 2), behind the last sign", x.clause(0, 2), NONE);
        due("clause(0, 9), behind the last sign", x.clause(0, 9), NONE);
        due("clause(0, 13), a bad value", x.clause(0, 13), BAD_VALUE);
        due("clause(1, 2), no such clause", x.clause(1, 2), NO_SUCH);
    }

    private static void noneOfSearched() {
        ClauseWatch x = Scene.told(9, HardSearchTest.ENDS_AT_2001);
        x.set(1, 1);
        due("searched(0, 0), open behind 2000 steps", x.searched(0, 0), NONE);
        due("searched(0, 3), a bad value, too", x.searched(0, 3), BAD_VALUE);
        due("searched(0, -1), a bad value, too", x.searched(0, -1), BAD_VALUE);
        due("ifTold(9), twenty told", x.ifTold(9), TOO_MANY);
    }

    private static void noneOfFault() {
        ClauseWatch x = new ClauseWatch();
        x.put('1');
        due("fault()", x.fault(), NONE);
        due("read(), so there is no error", x.read(), 1);
    }

    private static void numbers() {
        ClauseWatch x = Scene.told("3;-4");
        x.set(2, 1);
        due("step(2)", x.step(2), 0);
        due("the first clause is 0", x.clause(0, 1), 3);
        due("the first place is 0", x.trail(0), 3);
        due("the place that of tells", x.of(3, 3), 0);
        due("the first level is 0", x.of(3, 1), 0);
        due("the reason is 0", x.of(3, 2), 0);
        due("the first clause of a set is its lowest bit", Scene.told("1,2;1").needless(), 1);
        due("the first setting is 0", x.set(0, 9), 4);
        due("the first number is 0", x.count(0), 2);
        due("the first slot is 0", x.save(0), 2);
        due("which is restored", x.restore(0), 2);
        due("the first character is 0", Scene.FRESH.withPad("x").make().fault(), 0);
        due("the first clause goes", x.drop(0), 1);
        due("the second has become the first", x.clause(0, 1), 14);
    }

    private static void thingsFrom1To9() {
        for (int what = 0; what <= 3; what++) {
            int about = what;
            Scene.FITS.refuses("of(0, " + what + ")", x -> x.of(0, about), NO_SUCH);
            Scene.FITS.refuses("of(10, " + what + ")", x -> x.of(10, about), NO_SUCH);
        }
        ClauseWatch x = Scene.FITS.make();
        due("of(1, 3)", x.of(1, 3), 0);
        due("of(9, 3)", x.of(9, 3), 8);
        due("trail(0)", x.trail(0), 1);
        due("trail(8)", x.trail(8), 9);
        due("inAnswers(1, 0)", x.inAnswers(1, 0), 256);
        due("inAnswers(9, 0)", x.inAnswers(9, 0), 256);
    }

    // ---- Settings

    private static void thingsAtFirst() {
        due("count(7)", new ClauseWatch().count(7), 4);
        due("set(0, 4)", new ClauseWatch().set(0, 4), 4);
    }

    private static void leastThings() {
        ClauseWatch x = new ClauseWatch();
        due("set(0, 1)", x.set(0, 1), 4);
        due("count(7)", x.count(7), 1);
        due("answers()", x.answers(), 2);
        due("of(1, 0)", x.of(1, 0), NONE);
        due("of(2, 0)", x.of(2, 0), NO_SUCH);
        due("ifTold(12)", x.ifTold(12), BAD_VALUE);
        due("step(500)", x.step(500), 1);
        due("one value", x.count(4), 1);
        for (int value : new int[] {0, -1, LEAST}) {
            Scene.MIDDLE.refuses("set(0, " + value + ")", y -> y.set(0, value), BAD_VALUE);
            Scene.FRESH.refuses("set(0, " + value + ")", y -> y.set(0, value), BAD_VALUE);
        }
    }

    private static void mostThings() {
        ClauseWatch x = new ClauseWatch();
        due("set(0, 9)", x.set(0, 9), 4);
        due("count(7)", x.count(7), 9);
        due("answers()", x.answers(), 512);
        due("of(9, 0)", x.of(9, 0), NONE);
        due("ifTold(19)", x.ifTold(19), 1);
        for (int value : new int[] {10, 11, MOST}) {
            Scene.MIDDLE.refuses("set(0, " + value + ")", y -> y.set(0, value), BAD_VALUE);
        }
    }

    private static void restartAtFirst() {
        due("count(8)", new ClauseWatch().count(8), 10);
        due("set(1, 10)", new ClauseWatch().set(1, 10), 10);
    }

    private static void leastRestart() {
        ClauseWatch x = new ClauseWatch();
        due("set(1, 1)", x.set(1, 1), 10);
        due("count(8)", x.count(8), 1);
        for (int value : new int[] {0, -1, LEAST}) {
            Scene.MIDDLE.refuses("set(1, " + value + ")", y -> y.set(1, value), BAD_VALUE);
        }
    }

    private static void mostRestart() {
        ClauseWatch x = new ClauseWatch();
        due("set(1, 20)", x.set(1, 20), 10);
        due("count(8)", x.count(8), 20);
        for (int value : new int[] {21, 22, MOST}) {
            Scene.MIDDLE.refuses("set(1, " + value + ")", y -> y.set(1, value), BAD_VALUE);
        }
    }

    private static void firstAtFirst() {
        ClauseWatch x = new ClauseWatch();
        due("count(9)", x.count(9), 0);
        x.step(1);
        due("of(1, 0)", x.of(1, 0), 0);
    }

    private static void leastFirst() {
        ClauseWatch x = new ClauseWatch();
        due("set(2, 1)", x.set(2, 1), 0);
        due("set(2, 0)", x.set(2, 0), 1);
        due("count(9)", x.count(9), 0);
        x.step(1);
        due("of(1, 0)", x.of(1, 0), 0);
        for (int value : new int[] {-1, LEAST}) {
            Scene.MIDDLE.refuses("set(2, " + value + ")", y -> y.set(2, value), BAD_VALUE);
        }
    }

    private static void mostFirst() {
        ClauseWatch x = new ClauseWatch();
        due("set(2, 1)", x.set(2, 1), 0);
        due("count(9)", x.count(9), 1);
        x.step(1);
        due("of(1, 0)", x.of(1, 0), 1);
        for (int value : new int[] {2, MOST}) {
            Scene.MIDDLE.refuses("set(2, " + value + ")", y -> y.set(2, value), BAD_VALUE);
        }
    }

    // ---- Signs, clauses

    private static void values() {
        ClauseWatch x = Scene.told("1;-2");
        x.step(2);
        due("of(1, 0)", x.of(1, 0), 1);
        due("of(2, 0)", x.of(2, 0), 0);
        due("of(3, 0)", x.of(3, 0), NONE);
    }

    private static void leastSigns() {
        ClauseWatch x = Scene.told(9, "1;-1");
        due("clause(0, 1)", x.clause(0, 1), 1);
        due("clause(1, 1)", x.clause(1, 1), 11);
        x = new ClauseWatch();
        due("ifTold(1)", x.ifTold(1), 1);
        due("ifTold(11)", x.ifTold(11), 1);
        x = Scene.told("1");
        due("ifTold(1)", x.ifTold(1), 1);
        due("ifTold(11)", x.ifTold(11), 2);
    }

    private static void mostSigns() {
        ClauseWatch x = Scene.told(9, "9;-9");
        due("clause(0, 1)", x.clause(0, 1), 9);
        due("clause(1, 1)", x.clause(1, 1), 19);
        x = Scene.told(9, "-9");
        due("ifTold(9)", x.ifTold(9), 2);
        due("ifTold(19)", x.ifTold(19), 1);
    }

    private static void noSigns() {
        for (int sign : new int[] {LEAST, -19, -11, -9, -1, 0, 10, 20, 21, 29, 111, MOST}) {
            Scene.FITS.refuses("ifTold(" + sign + ")", x -> x.ifTold(sign), BAD_VALUE);
        }
        Scene.FRESH.withPad("0").refuses("read()", ClauseWatch::read, BAD_TEXT);
        Scene.FRESH.withPad("10").refuses("read()", ClauseWatch::read, BAD_TEXT);
        Scene.FRESH.withPad("11").refuses("read()", ClauseWatch::read, BAD_TEXT);
    }

    static void dueSigns(ClauseWatch x, int clause, int... want) {
        due("clause(" + clause + ", 0)", x.clause(clause, 0), want.length);
        for (int place = 1; place <= 9; place++) {
            int sign = place <= want.length ? want[place - 1] : NONE;
            due("clause(" + clause + ", " + place + ")", x.clause(clause, place), sign);
        }
    }

    private static void clauseOfOne() {
        ClauseWatch x = Scene.told("3;-4");
        dueSigns(x, 0, 3);
        dueSigns(x, 1, 14);
    }

    private static void clauseOfNine() {
        ClauseWatch x = Scene.told(9, "1,2,3,4,5,6,7,8,9;-1,-2,-3,-4,-5,-6,-7,-8,-9;-1,2,-3,4,-5,6,-7,8,-9");
        dueSigns(x, 0, 1, 2, 3, 4, 5, 6, 7, 8, 9);
        dueSigns(x, 1, 11, 12, 13, 14, 15, 16, 17, 18, 19);
        dueSigns(x, 2, 11, 2, 13, 4, 15, 6, 17, 8, 19);
        due("answers()", x.answers(), 509);
    }

    private static void noClauseOfNothing() {
        for (String text : new String[] {"", ";", "1;", ";1", "1;;2"}) {
            Scene.FRESH.withPad(text).refuses("read()", ClauseWatch::read, BAD_TEXT);
        }
    }

    private static void noLikeThings() {
        for (String text : new String[] {"1,1", "1,-1", "-1,1", "-1,-1", "2,1", "1,3,2"}) {
            Scene.FRESH.withPad(text).refuses("read()", ClauseWatch::read, BAD_TEXT);
        }
    }

    /** 4 is 1 and 3 is 0 at the level 0; 1 is decided to be 0; the third clause is false; 1 comes once. */
    private static void learnedInOrder() {
        ClauseWatch x = Scene.told("4;1,2;1,-2,3,-4;-3,-4");
        due("step(5)", x.step(5), 0);
        dueSigns(x, 4, 1, 3, 14);
        // The highest thing comes from the conflict, the lowest ones from the reason.
        x = Scene.told(5, "1,2,4;-4,5;1,2,-5;4,-5");
        due("step(5)", x.step(5), 0);
        dueSigns(x, 4, 1, 2);
        due("back at the level 1", x.count(3), 1);
    }

    private static void learnedOfEight() {
        ClauseWatch x = Scene.told(9, "1,2,3,4,5,6,7,8,9;1,2,3,4,5,6,7,8,-9");
        due("step(10)", x.step(10), 0);
        dueSigns(x, 2, 1, 2, 3, 4, 5, 6, 7, 8);
        due("back at the level 7", x.count(3), 7);
        due("seven values", x.count(4), 7);
    }

    private static void neitherTrueNorFalse() {
        ClauseWatch x = Scene.told("1,2");
        due("clause(0, 10)", x.clause(0, 10), 0);
        due("clause(0, 11)", x.clause(0, 11), 0);
        x.step(1);
        due("clause(0, 10), a sign that is not as told", x.clause(0, 10), 0);
        due("clause(0, 11), and one that is open", x.clause(0, 11), 0);
    }

    private static void trueByOneOfMany() {
        ClauseWatch first = Scene.told("-1,2,3,4");
        first.step(1);
        due("clause(0, 10), true by its first sign", first.clause(0, 10), 1);
        due("clause(0, 11)", first.clause(0, 11), 0);
        ClauseWatch last = Scene.told("1,2,3,4");
        last.step(4);
        due("clause(0, 10), true by its last sign", last.clause(0, 10), 1);
        due("clause(0, 11)", last.clause(0, 11), 0);
        ClauseWatch all = Scene.told("-1,-2,-3,-4");
        all.step(4);
        due("clause(0, 10), true by all", all.clause(0, 10), 1);
    }

    private static void falseByAll() {
        ClauseWatch x = Scene.told("1;-1");
        x.step(1);
        due("clause(1, 10), one sign", x.clause(1, 10), 0);
        due("clause(1, 11), one sign", x.clause(1, 11), 1);
        x = Scene.told("1,2,3,4;1,2,3,-4");
        x.step(4);
        due("clause(1, 10), four signs", x.clause(1, 10), 0);
        due("clause(1, 11), four signs", x.clause(1, 11), 1);
        x = Scene.told(9, "1,2,3,4,5,6,7,8,9;1,2,3,4,5,6,7,8,-9");
        x.step(9);
        due("clause(1, 10), nine signs", x.clause(1, 10), 0);
        due("clause(1, 11), nine signs", x.clause(1, 11), 1);
        due("clause(0, 10)", x.clause(0, 10), 1);
    }

    private static void notFalseWhileOneIsOpen() {
        ClauseWatch x = Scene.told(9, "1,2,3,4,5,6,7,8,9");
        x.step(8);
        due("clause(0, 11)", x.clause(0, 11), 0);
        due("clause(0, 12)", x.clause(0, 12), 1);
        due("the search is open", x.step(1), 0);
        due("and has learned nothing", x.count(1), 0);
    }

    private static void upTo20() {
        ClauseWatch x = Scene.told("1;2;3;4;1;2;3;4;1;2;3;4;1;2;3;4;1;2;3");
        due("nineteen", x.count(0), 19);
        due("one more", Due.reads(x, "4"), 20);
        due("the last one", x.clause(19, 1), 4);
        Scene.TWENTY.withPad("1").refuses("read()", ClauseWatch::read, TOO_MANY);
    }

    private static void upTo40() {
        ClauseWatch x = Scene.told(9, Scene.LEARNS_SIXTY);
        x.step(221);
        due("39 of 39 conflicts", x.count(1), 39);
        due("conflicts", x.count(5), 39);
        due("clause(58, 0)", x.clause(58, 0), 2);
        due("clause(59, 0)", x.clause(59, 0), NO_SUCH);
        x.step(1);
        due("40 of 40", x.count(1), 40);
        due("conflicts", x.count(5), 40);
        due("clause(59, 0)", x.clause(59, 0), 3);
        x.step(8);
        due("40 of 41", x.count(1), 40);
        due("conflicts", x.count(5), 41);
        due("clause(59, 0)", x.clause(59, 0), 4);
        due("clause(60, 0)", x.clause(60, 0), NO_SUCH);
    }

    private static void inTheirOrder() {
        ClauseWatch x = Scene.told("4;1");
        Due.reads(x, "3;2");
        for (int i = 0; i < 4; i++) {
            due("clause(" + i + ", 1)", x.clause(i, 1), new int[] {4, 1, 3, 2}[i]);
        }
        // 3 is learned first, then 1.
        x = Scene.told("3,4;3,-4;1,2;1,-2");
        due("step(6)", x.step(6), 0);
        dueSigns(x, 4, 1);
        due("step(5)", x.step(5), 0);
        dueSigns(x, 4, 1);
        dueSigns(x, 5, 3);
    }

    private static void noneToldNoneLearned() {
        Scene.FRESH.refuses("clause(0, 0)", x -> x.clause(0, 0), NO_SUCH);
        Scene.FRESH.refuses("clause(-1, 0)", x -> x.clause(-1, 0), NO_SUCH);
        Scene.TWENTY.refuses("clause(20, 0)", x -> x.clause(20, 0), NO_SUCH);
    }

    private static void lastToldFirstLearned() {
        ClauseWatch x = Scene.MIDDLE.make();
        dueSigns(x, 2, 1, 13, 14);
        dueSigns(x, 3, 1, 13);
        due("the reason is the learned one", x.of(3, 2), 3);
        due("drop(0)", x.drop(0), 2);
        dueSigns(x, 0, 1, 13, 4);
        due("clause(2, 0), as what was learned has gone", x.clause(2, 0), NO_SUCH);
    }

    private static void allSixty() {
        ClauseWatch x = Scene.FULL.make();
        dueSigns(x, 0, 12, 14, 5, 7, 19);
        dueSigns(x, 19, 6, 8, 9);
        dueSigns(x, 59, 12, 3, 14, 5, 6);
        due("clause(60, 0)", x.clause(60, 0), NO_SUCH);
        due("step(1)", x.step(1), 0);
        due("the last one tells: of(6, 0)", x.of(6, 0), 1);
        due("the last one tells: of(6, 2)", x.of(6, 2), 59);
    }
}
