/** The boundary cases of the promises 7 to 16. */
public final class EdgesOfQuestionsTest {
    private static final int NO_SUCH = -1, BAD_VALUE = -2, TOO_MANY = -4, NONE = -6;
    private static final int LEAST = Integer.MIN_VALUE, MOST = Integer.MAX_VALUE;

    /**
     * 19 clauses of 8 things, which take 1032 steps with RESTART 1 and end with NEVER. No search of 8 things takes
     * more than some 1,200 steps (NOTES.md tells why), so that ifTold never comes to 2000.
     */
    private static final String LONGEST_OF_EIGHT = "-1,2,-3,-4,-5,-6,7,8;3,6,7,-8;-1,2,3,-5,-7,-8;-2,4,5,7,8"
            + ";2,-4,5,7,8;-2,-4,-5,7,8;-2,-4,5,7,8;2,4,-5,7,8;3,7,-8;1,-3,-5,-6,7,-8;-3,6,7,-8;-2,4,-5,7,8;-7,-8"
            + ";3,4,-6,-7,-8;2,-4,-5,7,8;6,-7,8;-6,-7,8;2,4,5,7,8;-3,7,-8";

    private EdgesOfQuestionsTest() {
    }

    public static void main(String[] args) {
        sentences().run("EdgesOfQuestionsTest");
    }

    static Sentences sentences() {
        Sentences s = new Sentences();
        promises7And8(s);
        promise9(s);
        promise10(s);
        promises11And12(s);
        promises13And14(s);
        promise15(s);
        promise16(s);
        return s;
    }

    private static void promises7And8(Sentences s) {
        s.under("Promise 7: of");
        s.namesNone("Returns something about a thing.");
        s.test("`thing`: 1 to THINGS", EdgesOfQuestionsTest::eachThingOfEachThings);
        s.test("`what`: 0 its value (NONE), 1 its level (NONE), 2 its reason (NONE, also if it was decided), 3 its "
                + "place in the trail (NONE)", EdgesOfQuestionsTest::withoutAValue, EdgesOfQuestionsTest::decided,
                EdgesOfQuestionsTest::told);
        s.namesNone("Returns the number");
        s.test("NO_SUCH if there is no such thing", EdgesOfQuestionsTest::noSuchThing, EdgesOfTermsTest::orderOfOf);
        s.test("BAD_VALUE if what is out of range.", EdgesOfQuestionsTest::ofWhatOutOfRange);
        s.under("Promise 8: trail");
        s.namesNone("Returns a thing of the trail.");
        s.test("`place`: 0 for the first one", EdgesOfQuestionsTest::firstPlace);
        s.test("Returns the thing", EdgesOfQuestionsTest::thingWithEitherValue);
        s.test("NO_SUCH if there is no such place.", EdgesOfQuestionsTest::placesOfAnEmptyTrail,
                EdgesOfQuestionsTest::placesOfAFullTrail, EdgesOfQuestionsTest::placesThatHaveGone);
    }

    private static void promise9(Sentences s) {
        s.under("Promise 9: clause");
        s.namesNone("Returns something about a clause.");
        s.test("`what`: 0 how many signs it has, 1 to 9: its first, second .. sign (NONE behind the last one), 10 "
                + "whether it is true (1 or 0), 11 whether it is false (1 or 0), 12 how many of its things have no "
                + "value", EdgesOfQuestionsTest::signsOfEachLength, EdgesOfQuestionsTest::trueOrNot,
                EdgesOfQuestionsTest::falseOrNot, EdgesOfQuestionsTest::nineToNoneOpen,
                EdgesOfQuestionsTest::whatOfALearnedOne);
        s.namesNone("Returns the number");
        s.test("NO_SUCH if there is no such clause", EdgesOfQuestionsTest::clausesOfNone,
                EdgesOfQuestionsTest::clausesOfTwenty, EdgesOfQuestionsTest::clausesOfSixty,
                EdgesOfTermsTest::orderOfClause);
        s.test("BAD_VALUE if what is out of range.", EdgesOfQuestionsTest::clauseWhatOutOfRange);
    }

    private static void promise10(Sentences s) {
        s.under("Promise 10: count");
        s.namesNone("Returns a number.");
        s.test("`what`: 0 told clauses, 1 learned ones, 2 how the search stands, 3 the present level, 4 values, how "
                + "many, 5 conflicts that were learned from, 6 steps so far (of this search), 7 to 9 the settings, "
                + "10 the length of the pad, 11 how many changes can be undone", EdgesOfQuestionsTest::countsOfNew,
                EdgesOfQuestionsTest::countsInTheMiddle, EdgesOfQuestionsTest::countsOfFull,
                EdgesOfQuestionsTest::countsWhenItFits, EdgesOfQuestionsTest::countsWhenNever,
                EdgesOfQuestionsTest::stepsOfThisSearch);
        s.namesNone("Returns the number");
        s.test("BAD_VALUE if what is out of range.", EdgesOfQuestionsTest::countWhatOutOfRange);
    }

    private static void promises11And12(Sentences s) {
        s.under("Promise 11: answers");
        s.test("Returns how many answers there are: values of all things with which all told clauses are true.",
                EdgesOfQuestionsTest::noAnswer, EdgesOfQuestionsTest::oneAnswer, EdgesOfQuestionsTest::allAnswers,
                EdgesOfQuestionsTest::answersOfTwenty, EdgesOfQuestionsTest::answersWhateverTheSearch);
        s.under("Promise 12: inAnswers");
        s.namesNone("Returns something about a thing in all answers.");
        s.test("`thing`: 1 to THINGS", EdgesOfQuestionsTest::inAnswersOfEachThing);
        s.test("`what`: 0 in how many answers it is 1, 1 whether it has the same value in all of them (1, also if "
                + "there is none, or 0)", EdgesOfQuestionsTest::inNoAnswer, EdgesOfQuestionsTest::inOneAnswer,
                EdgesOfQuestionsTest::inAllAnswers, EdgesOfQuestionsTest::inAllButOne);
        s.namesNone("Returns the number");
        s.test("NO_SUCH if there is no such thing", EdgesOfQuestionsTest::inAnswersNoSuchThing,
                EdgesOfTermsTest::orderOfInAnswers);
        s.test("BAD_VALUE if what is neither 0 nor 1.", EdgesOfQuestionsTest::inAnswersWhatOutOfRange);
    }

    private static void promises13And14(Sentences s) {
        s.under("Promise 13: follows");
        s.test("Tells whether a clause follows: it is true in all answers.", EdgesOfQuestionsTest::toldOnesFollow,
                EdgesOfQuestionsTest::learnedOnesFollow, EdgesOfQuestionsTest::allFollowWithoutAnAnswer);
        s.namesNone("Returns 1 or 0");
        s.test("NO_SUCH if there is no such clause.", EdgesOfQuestionsTest::noSuchClauseFollows);
        s.under("Promise 14: needless");
        s.test("Returns the told clauses, as a set (a bit mask), each of which could be taken away, it alone, "
                + "without another answer coming.", EdgesOfQuestionsTest::noneToBeNeedless,
                EdgesOfQuestionsTest::oneIsNeeded, EdgesOfQuestionsTest::eachOfTwoThatAreTheSame,
                EdgesOfQuestionsTest::firstAndLastOfTwenty, EdgesOfQuestionsTest::allTwentyNeedless,
                EdgesOfQuestionsTest::needlessWithoutAnAnswer, EdgesOfQuestionsTest::learnedAreNotInTheSet);
    }

    private static void promise15(Sentences s) {
        s.under("Promise 15: searched");
        s.test("Tells how many steps a search from its beginning takes until it is not open.",
                EdgesOfQuestionsTest::fewestSteps, EdgesOfQuestionsTest::fromItsBeginning,
                EdgesOfQuestionsTest::withRestartAsItIs);
        s.test("`first`: 0 or 1: FIRST", EdgesOfQuestionsTest::firstOfSearched);
        s.test("`what`: 0 the steps (the one behind which it is not open counts), 1 the conflicts that are learned "
                + "from, 2 how it stands then", EdgesOfQuestionsTest::searchedWhenItFits,
                EdgesOfQuestionsTest::searchedWhenNever, EdgesOfQuestionsTest::searchedAsStepsDo);
        s.namesNone("Returns the number");
        s.test("BAD_VALUE if an argument is neither of those", EdgesOfQuestionsTest::searchedOutOfRange);
        s.test("NONE if it is open behind 2000 steps.", EdgesOfQuestionsTest::endsWithStep2000,
                EdgesOfQuestionsTest::openBehindStep2000);
    }

    private static void promise16(Sentences s) {
        s.under("Promise 16: ifTold");
        s.test("Tells how the search would go on if a sign was told by one more clause with it alone (at the end "
                + "of the told ones), from the beginning.", EdgesOfQuestionsTest::asIfRead,
                EdgesOfQuestionsTest::asIfReadFromTheBeginning, EdgesOfQuestionsTest::ifToldTheTwentieth);
        s.test("`sign`: a sign", EdgesOfQuestionsTest::eachSignOfEachThings);
        s.test("Returns how it stands in the end", EdgesOfQuestionsTest::fitsOrNever);
        s.test("BAD_VALUE if there is no such sign, or its thing is above THINGS",
                EdgesOfQuestionsTest::ifToldOutOfRange, EdgesOfTermsTest::orderOfIfTold);
        s.test("TOO_MANY if there are 20 told clauses", EdgesOfQuestionsTest::ifToldOfTwenty);
        s.test("NONE if it is open behind 2000 steps.", EdgesOfQuestionsTest::longestIfTold);
    }

    private static void due(String call, long got, long want) {
        Due.due(call, got, want);
    }

    private static ClauseWatch things(int things) {
        ClauseWatch x = new ClauseWatch();
        x.set(0, things);
        return x;
    }

    // ---- Promises 7 and 8

    private static void eachThingOfEachThings() {
        for (int things = 1; things <= 9; things++) {
            ClauseWatch x = things(things);
            x.step(500);
            for (int thing = 0; thing <= 10; thing++) {
                boolean is = thing >= 1 && thing <= things;
                due("of(" + thing + ", 3) of " + things, x.of(thing, 3), is ? thing - 1 : NO_SUCH);
            }
        }
    }

    private static void withoutAValue() {
        ClauseWatch x = Scene.told("1");
        x.step(1);
        for (int thing = 2; thing <= 4; thing++) {
            EdgesOfSearchTest.dueThing(x, thing, NONE, NONE, NONE, NONE);
        }
        x.step(3);
        x.back(0);
        EdgesOfSearchTest.dueThing(x, 2, NONE, NONE, NONE, NONE);
        EdgesOfSearchTest.dueThing(x, 1, 1, 0, 0, 0);
    }

    private static void decided() {
        ClauseWatch x = Scene.FITS.make();
        EdgesOfSearchTest.dueThing(x, 1, 0, 1, NONE, 0);
        EdgesOfSearchTest.dueThing(x, 9, 0, 9, NONE, 8);
        ClauseWatch one = new ClauseWatch();
        one.set(2, 1);
        one.step(1);
        EdgesOfSearchTest.dueThing(one, 1, 1, 1, NONE, 0);
    }

    private static void told() {
        ClauseWatch x = Scene.told(9, "9;-1");
        x.step(2);
        EdgesOfSearchTest.dueThing(x, 9, 1, 0, 0, 0);
        EdgesOfSearchTest.dueThing(x, 1, 0, 0, 1, 1);
    }

    private static void noSuchThing() {
        for (int thing : new int[] {LEAST, -9, -1, 0, 10, 11, 12, 19, MOST}) {
            Scene.FITS.refuses("of(" + thing + ", 0)", x -> x.of(thing, 0), NO_SUCH);
            Scene.FRESH.refuses("of(" + thing + ", 3)", x -> x.of(thing, 3), NO_SUCH);
        }
        for (int thing : new int[] {0, 6, 9}) {
            Scene.MIDDLE.refuses("of(" + thing + ", 2)", x -> x.of(thing, 2), NO_SUCH);
        }
    }

    private static void ofWhatOutOfRange() {
        for (int what : new int[] {LEAST, -1, 4, 5, MOST}) {
            Scene.FITS.refuses("of(9, " + what + ")", x -> x.of(9, what), BAD_VALUE);
            Scene.FRESH.refuses("of(1, " + what + "), no value", x -> x.of(1, what), BAD_VALUE);
        }
    }

    private static void firstPlace() {
        ClauseWatch x = Scene.told("3;-2");
        x.step(2);
        due("trail(0)", x.trail(0), 3);
        due("trail(1)", x.trail(1), 2);
        ClauseWatch one = things(1);
        one.step(1);
        due("trail(0)", one.trail(0), 1);
    }

    private static void thingWithEitherValue() {
        for (int things = 1; things <= 9; things++) {
            ClauseWatch zero = Scene.told(9, "-" + things);
            zero.step(1);
            due("trail(0)", zero.trail(0), things);
            ClauseWatch one = Scene.told(9, "" + things);
            one.step(1);
            due("trail(0)", one.trail(0), things);
        }
    }

    private static void placesOfAnEmptyTrail() {
        for (int place : new int[] {LEAST, -1, 0, 1, 8, 9, MOST}) {
            Scene.FRESH.refuses("trail(" + place + ")", x -> x.trail(place), NO_SUCH);
            Scene.TWENTY.refuses("trail(" + place + ")", x -> x.trail(place), NO_SUCH);
        }
    }

    private static void placesOfAFullTrail() {
        ClauseWatch x = Scene.FITS.make();
        for (int place = 0; place <= 8; place++) {
            due("trail(" + place + ")", x.trail(place), place + 1);
        }
        for (int place : new int[] {LEAST, -1, 9, 10, MOST}) {
            Scene.FITS.refuses("trail(" + place + ")", y -> y.trail(place), NO_SUCH);
        }
        ClauseWatch four = new ClauseWatch();
        four.step(500);
        due("trail(3)", four.trail(3), 4);
        due("trail(4)", four.trail(4), NO_SUCH);
    }

    private static void placesThatHaveGone() {
        for (int level = 0; level <= 8; level++) {
            ClauseWatch x = Scene.FITS.make();
            x.back(level);
            if (level > 0) {
                due("trail(" + (level - 1) + ")", x.trail(level - 1), level);
            }
            due("trail(" + level + ")", x.trail(level), NO_SUCH);
        }
    }

    // ---- Promise 9

    private static void signsOfEachLength() {
        String text = "";
        int[] want = {};
        for (int length = 1; length <= 9; length++) {
            boolean one = length % 2 == 1;
            text += (text.isEmpty() ? "" : ",") + (one ? "" : "-") + length;
            want = java.util.Arrays.copyOf(want, length);
            want[length - 1] = one ? length : 10 + length;
            EdgesOfTermsTest.dueSigns(Scene.told(9, text), 0, want);
        }
        EdgesOfTermsTest.dueSigns(Scene.told(9, "-9"), 0, 19);
        EdgesOfTermsTest.dueSigns(Scene.told(9, "1,9"), 0, 1, 9);
    }

    private static void trueOrNot() {
        ClauseWatch x = Scene.told("-1;1,2;2");
        due("clause(0, 10), no value", x.clause(0, 10), 0);
        x.step(1);
        due("clause(0, 10), true", x.clause(0, 10), 1);
        due("clause(1, 10), one open", x.clause(1, 10), 0);
        x.step(1);
        due("clause(1, 10), true by its last sign", x.clause(1, 10), 1);
        x = Scene.told("1;-1");
        x.step(1);
        due("clause(1, 10), false", x.clause(1, 10), 0);
    }

    private static void falseOrNot() {
        ClauseWatch x = Scene.told("1;-1,-2;-1");
        due("clause(2, 11), no value", x.clause(2, 11), 0);
        x.step(1);
        due("clause(2, 11), false", x.clause(2, 11), 1);
        due("clause(1, 11), one open", x.clause(1, 11), 0);
        due("clause(0, 11), true", x.clause(0, 11), 0);
        ClauseWatch all = Scene.told("1,2;1,-2");
        all.step(2);
        due("clause(0, 11), all have values, but it is true", all.clause(0, 11), 0);
        due("clause(1, 11), all have values", all.clause(1, 11), 1);
    }

    private static void nineToNoneOpen() {
        ClauseWatch x = Scene.told(9, "-1,-2,-3,-4,-5,-6,-7,-8,-9");
        for (int open = 9; open >= 0; open--) {
            due("clause(0, 12)", x.clause(0, 12), open);
            due("clause(0, 10)", x.clause(0, 10), open < 9 ? 1 : 0);
            x.step(1);
        }
        ClauseWatch other = Scene.told(9, "1,2,3,4,5,6,7,8,9");
        for (int open = 9; open >= 0; open--) {
            due("clause(0, 12)", other.clause(0, 12), open);
            due("clause(0, 10)", other.clause(0, 10), open == 0 ? 1 : 0);
            due("clause(0, 11)", other.clause(0, 11), 0);
            other.step(1);
        }
    }

    private static void whatOfALearnedOne() {
        ClauseWatch x = Scene.MIDDLE.make();
        EdgesOfTermsTest.dueSigns(x, 3, 1, 13);
        due("clause(3, 10)", x.clause(3, 10), 1);
        due("clause(3, 11)", x.clause(3, 11), 0);
        due("clause(3, 12)", x.clause(3, 12), 0);
        x.back(0);
        due("clause(3, 10)", x.clause(3, 10), 0);
        due("clause(3, 12)", x.clause(3, 12), 2);
        // The learned 1,2 is false behind step 13.
        ClauseWatch y = Scene.told("1,2,4;1,-2,-3;2,-3,-4;3,-4;3,4");
        y.set(1, 1);
        y.step(13);
        due("clause(5, 11)", y.clause(5, 11), 1);
        due("clause(5, 10)", y.clause(5, 10), 0);
    }

    private static void clausesOfNone() {
        for (int clause : new int[] {LEAST, -1, 0, 1, 19, 20, 59, 60, MOST}) {
            Scene.FRESH.refuses("clause(" + clause + ", 0)", x -> x.clause(clause, 0), NO_SUCH);
            Scene.FITS.refuses("clause(" + clause + ", 12)", x -> x.clause(clause, 12), NO_SUCH);
        }
        ClauseWatch x = Scene.told("1");
        x.drop(0);
        due("the only one has gone", x.clause(0, 0), NO_SUCH);
    }

    private static void clausesOfTwenty() {
        ClauseWatch x = Scene.twenty();
        due("clause(0, 1)", x.clause(0, 1), 1);
        due("clause(19, 0)", x.clause(19, 0), 2);
        due("clause(19, 1)", x.clause(19, 1), 3);
        for (int clause : new int[] {LEAST, -1, 20, 21, 39, 40, 59, 60, MOST}) {
            Scene.TWENTY.refuses("clause(" + clause + ", 1)", y -> y.clause(clause, 1), NO_SUCH);
        }
        Scene.MIDDLE.refuses("clause(4, 0), behind the learned one", y -> y.clause(4, 0), NO_SUCH);
    }

    private static void clausesOfSixty() {
        ClauseWatch x = Scene.FULL.make();
        for (int clause = 0; clause < 60; clause++) {
            due("clause(" + clause + ", 0) is there", x.clause(clause, 0) > 0 ? 1 : 0, 1);
        }
        for (int clause : new int[] {LEAST, -1, 60, 61, MOST}) {
            Scene.FULL.refuses("clause(" + clause + ", 0)", y -> y.clause(clause, 0), NO_SUCH);
        }
    }

    private static void clauseWhatOutOfRange() {
        for (int what : new int[] {LEAST, -1, 13, 14, 19, MOST}) {
            Scene.MIDDLE.refuses("clause(0, " + what + ")", x -> x.clause(0, what), BAD_VALUE);
            Scene.FULL.refuses("clause(59, " + what + ")", x -> x.clause(59, what), BAD_VALUE);
        }
    }

    // ---- Promise 10

    private static void dueCounts(ClauseWatch x, int... want) {
        for (int what = 0; what < 12; what++) {
            due("count(" + what + ")", x.count(what), want[what]);
        }
    }

    private static void countsOfNew() {
        dueCounts(new ClauseWatch(), 0, 0, 0, 0, 0, 0, 0, 4, 10, 0, 0, 0);
    }

    private static void countsInTheMiddle() {
        dueCounts(Scene.MIDDLE.make(), 3, 1, 0, 1, 2, 1, 6, 5, 7, 0, 3, 4);
        ClauseWatch x = Scene.MIDDLE.make();
        x.set(2, 1);
        x.set(1, 20);
        dueCounts(x, 3, 1, 0, 1, 2, 1, 6, 5, 20, 1, 3, 6);
    }

    private static void countsOfFull() {
        dueCounts(Scene.FULL.make(), 20, 40, 0, 2, 5, 48, 270, 9, 10, 0, 60, 6);
    }

    private static void countsWhenItFits() {
        dueCounts(Scene.FITS.make(), 0, 0, 1, 9, 9, 0, 10, 9, 10, 0, 0, 2);
    }

    private static void countsWhenNever() {
        dueCounts(Scene.NEVER.make(), 2, 0, 2, 0, 1, 0, 2, 4, 10, 0, 0, 3);
    }

    /** The steps go on behind back and set, and begin anew with the search. */
    private static void stepsOfThisSearch() {
        ClauseWatch x = new ClauseWatch();
        x.step(500);
        due("count(6)", x.count(6), 5);
        x.back(0);
        due("count(6) behind back", x.count(6), 5);
        x.step(1);
        due("count(6)", x.count(6), 6);
        x.set(1, 3);
        x.set(2, 1);
        due("count(6) behind RESTART and FIRST", x.count(6), 6);
        x.set(0, 4);
        due("count(6) behind THINGS", x.count(6), 0);
        x.undo();
        due("count(6) behind undo", x.count(6), 6);
        x.save(0);
        Due.reads(x, "1");
        due("count(6) behind read", x.count(6), 0);
        x.step(1);
        x.restore(0);
        due("count(6) behind restore", x.count(6), 6);
    }

    private static void countWhatOutOfRange() {
        for (int what : new int[] {LEAST, -1, 12, 13, MOST}) {
            Scene.FRESH.refuses("count(" + what + ")", x -> x.count(what), BAD_VALUE);
            Scene.FULL.refuses("count(" + what + ")", x -> x.count(what), BAD_VALUE);
        }
    }

    // ---- Promises 11 and 12

    private static void noAnswer() {
        due("1;-1", Scene.told("1;-1").answers(), 0);
        due("1;-1 of one thing", Scene.told(1, "1;-1").answers(), 0);
        due("9;-9 of nine", Scene.told(9, "9;-9").answers(), 0);
        due("four of two", Scene.told("1,2;1,-2;-1,2;-1,-2").answers(), 0);
    }

    private static void oneAnswer() {
        due("of one thing, 1", Scene.told(1, "1").answers(), 1);
        due("of one thing, 0", Scene.told(1, "-1").answers(), 1);
        due("of nine, all 1", Scene.told(9, "1;2;3;4;5;6;7;8;9").answers(), 1);
        due("of nine, all 0", Scene.told(9, "-1;-2;-3;-4;-5;-6;-7;-8;-9").answers(), 1);
        due("of nine, 1 and 0", Scene.told(9, "1;-2;3;-4;5;-6;7;-8;9").answers(), 1);
    }

    private static void allAnswers() {
        for (int things = 1; things <= 9; things++) {
            due(things + " things", things(things).answers(), 1 << things);
            if (things > 1) {
                due(things + " things, one told", Scene.told(things, "-" + things).answers(), 1 << things - 1);
            }
        }
        due("all but one: none is 1", Scene.told(9, "1,2,3,4,5,6,7,8,9").answers(), 511);
        due("all but one: all are 1", Scene.told(9, "-1,-2,-3,-4,-5,-6,-7,-8,-9").answers(), 511);
    }

    private static void answersOfTwenty() {
        due("the last of twenty counts", Scene.told("1;".repeat(19) + "-1").answers(), 0);
        due("the first of twenty counts", Scene.told("-1" + ";1".repeat(19)).answers(), 0);
        due("twenty", Scene.twenty().answers(), 1);
    }

    private static void answersWhateverTheSearch() {
        due("in the middle", Scene.MIDDLE.make().answers(), 16);
        due("when it fits", Scene.FITS.make().answers(), 512);
        due("when never", Scene.NEVER.make().answers(), 0);
        due("full", Scene.FULL.make().answers(), 0);
        due("in the middle, of 1", Scene.MIDDLE.make().inAnswers(1, 0), 12);
        due("when it fits, of 9", Scene.FITS.make().inAnswers(9, 0), 256);
    }

    private static void inAnswersOfEachThing() {
        for (int things = 1; things <= 9; things++) {
            ClauseWatch x = things(things);
            for (int thing = 0; thing <= 10; thing++) {
                boolean is = thing >= 1 && thing <= things;
                due("inAnswers(" + thing + ", 0)", x.inAnswers(thing, 0), is ? 1 << things - 1 : NO_SUCH);
                due("inAnswers(" + thing + ", 1)", x.inAnswers(thing, 1), is ? 0 : NO_SUCH);
            }
        }
    }

    private static void inNoAnswer() {
        ClauseWatch x = Scene.told(9, "1;-1");
        for (int thing = 1; thing <= 9; thing++) {
            due("inAnswers(" + thing + ", 0)", x.inAnswers(thing, 0), 0);
            due("inAnswers(" + thing + ", 1)", x.inAnswers(thing, 1), 1);
        }
    }

    private static void inOneAnswer() {
        ClauseWatch x = Scene.told(9, "1;-2;3;-4;5;-6;7;-8;9");
        for (int thing = 1; thing <= 9; thing++) {
            due("inAnswers(" + thing + ", 0)", x.inAnswers(thing, 0), thing % 2);
            due("inAnswers(" + thing + ", 1)", x.inAnswers(thing, 1), 1);
        }
    }

    private static void inAllAnswers() {
        ClauseWatch x = Scene.told(9, "1;-9");
        due("inAnswers(1, 0)", x.inAnswers(1, 0), 128);
        due("inAnswers(1, 1)", x.inAnswers(1, 1), 1);
        due("inAnswers(9, 0)", x.inAnswers(9, 0), 0);
        due("inAnswers(9, 1)", x.inAnswers(9, 1), 1);
        due("inAnswers(5, 0)", x.inAnswers(5, 0), 64);
        due("inAnswers(5, 1)", x.inAnswers(5, 1), 0);
    }

    /** Not the same value, if only one answer differs from all others. */
    private static void inAllButOne() {
        ClauseWatch x = Scene.told(2, "1,2");
        due("inAnswers(1, 0)", x.inAnswers(1, 0), 2);
        due("inAnswers(1, 1)", x.inAnswers(1, 1), 0);
        x = Scene.told(2, "-1,-2");
        due("inAnswers(1, 0)", x.inAnswers(1, 0), 1);
        due("inAnswers(1, 1)", x.inAnswers(1, 1), 0);
        // 1 is 0 in one answer alone, that in which all others are 1; then it is 1 in one alone.
        x = Scene.told(9, "1,2;1,3;1,4;1,5;1,6;1,7;1,8;1,9");
        due("answers()", x.answers(), 257);
        due("inAnswers(1, 0)", x.inAnswers(1, 0), 256);
        due("inAnswers(1, 1)", x.inAnswers(1, 1), 0);
        x = Scene.told(9, "-1,2;-1,3;-1,4;-1,5;-1,6;-1,7;-1,8;-1,9");
        due("inAnswers(1, 0)", x.inAnswers(1, 0), 1);
        due("inAnswers(1, 1)", x.inAnswers(1, 1), 0);
    }

    private static void inAnswersNoSuchThing() {
        for (int thing : new int[] {LEAST, -1, 0, 10, 11, 19, MOST}) {
            Scene.FITS.refuses("inAnswers(" + thing + ", 0)", x -> x.inAnswers(thing, 0), NO_SUCH);
            Scene.FITS.refuses("inAnswers(" + thing + ", 1)", x -> x.inAnswers(thing, 1), NO_SUCH);
        }
        Scene.NEVER.refuses("inAnswers(5, 1)", x -> x.inAnswers(5, 1), NO_SUCH);
        Scene.MIDDLE.refuses("inAnswers(6, 0)", x -> x.inAnswers(6, 0), NO_SUCH);
    }

    private static void inAnswersWhatOutOfRange() {
        for (int what : new int[] {LEAST, -1, 2, 3, MOST}) {
            Scene.FITS.refuses("inAnswers(9, " + what + ")", x -> x.inAnswers(9, what), BAD_VALUE);
            Scene.NEVER.refuses("inAnswers(1, " + what + ")", x -> x.inAnswers(1, what), BAD_VALUE);
        }
    }

    // ---- Promises 13 and 14

    private static void toldOnesFollow() {
        ClauseWatch x = Scene.told("1,2;-3;4");
        for (int clause = 0; clause <= 2; clause++) {
            due("follows(" + clause + ")", x.follows(clause), 1);
        }
        due("follows(19)", Scene.twenty().follows(19), 1);
    }

    private static void learnedOnesFollow() {
        ClauseWatch x = Scene.MIDDLE.make();
        due("follows(3)", x.follows(3), 1);
        ClauseWatch full = Scene.FULL.make();
        for (int clause = 0; clause < 60; clause++) {
            due("follows(" + clause + ")", full.follows(clause), 1);
        }
    }

    private static void allFollowWithoutAnAnswer() {
        ClauseWatch x = Scene.told("1;-1;2,3");
        for (int clause = 0; clause <= 2; clause++) {
            due("follows(" + clause + ")", x.follows(clause), 1);
        }
    }

    private static void noSuchClauseFollows() {
        for (int clause : new int[] {LEAST, -1, 0, 1, 20, 60, MOST}) {
            Scene.FRESH.refuses("follows(" + clause + ")", x -> x.follows(clause), NO_SUCH);
        }
        for (int clause : new int[] {LEAST, -1, 20, 21, 59, 60, MOST}) {
            Scene.TWENTY.refuses("follows(" + clause + ")", x -> x.follows(clause), NO_SUCH);
        }
        for (int clause : new int[] {LEAST, -1, 60, 61, MOST}) {
            Scene.FULL.refuses("follows(" + clause + ")", x -> x.follows(clause), NO_SUCH);
        }
        Scene.MIDDLE.refuses("follows(4)", x -> x.follows(4), NO_SUCH);
        due("without an answer: follows(2)", Scene.NEVER.make().follows(2), NO_SUCH);
    }

    private static void noneToBeNeedless() {
        due("needless()", new ClauseWatch().needless(), 0);
        due("needless()", Scene.FITS.make().needless(), 0);
    }

    private static void oneIsNeeded() {
        due("1", Scene.told("1").needless(), 0);
        due("nine signs", Scene.told(9, "1,2,3,4,5,6,7,8,9").needless(), 0);
        due("two", Scene.told("1;2").needless(), 0);
    }

    private static void eachOfTwoThatAreTheSame() {
        due("1;1", Scene.told("1;1").needless(), 3);
        due("1;2;1", Scene.told("1;2;1").needless(), 5);
        due("1,2;1;-3", Scene.told("1,2;1;-3").needless(), 1);
        due("1;1,2;-3", Scene.told("1;1,2;-3").needless(), 2);
        due("each of three follows from two", Scene.told("1,2;-1,2;2").needless(), 7);
    }

    /** So many clauses of nine signs, each of which refuses values of its own, in which 1 is 1. */
    private static String needed(int many) {
        StringBuilder text = new StringBuilder();
        for (int clause = 0; clause < many; clause++) {
            text.append(clause == 0 ? "-1" : ";-1");
            for (int thing = 2; thing <= 9; thing++) {
                text.append((clause >> thing - 2 & 1) == 0 ? "," : ",-").append(thing);
            }
        }
        return text.toString();
    }

    private static void firstAndLastOfTwenty() {
        ClauseWatch both = Scene.told(9, "1,2;" + needed(18) + ";1,2");
        due("answers()", both.answers(), 512 - 128 - 18);
        due("the first and the last", both.needless(), 1 | 1 << 19);
        due("the first", Scene.told(9, "1,2,3;1,2;" + needed(18)).needless(), 1);
        due("the last", Scene.told(9, "1,2;" + needed(18) + ";1,2,3").needless(), 1 << 19);
        due("none of twenty", Scene.told(9, needed(20)).needless(), 0);
    }

    private static void allTwentyNeedless() {
        due("twenty", Scene.twenty().needless() & ~0xFFFFF, 0);
        due("1, twenty times", Scene.told("1" + ";1".repeat(19)).needless(), 0xFFFFF);
        due("1, twice, among others", Scene.told("1;2;3;4;-1,2;-2,3;1").needless(), 1 | 1 << 4 | 1 << 5 | 1 << 6
                | 1 << 1 | 1 << 2);
    }

    private static void needlessWithoutAnAnswer() {
        due("1;-1", Scene.told("1;-1").needless(), 0);
        due("1;-1;2", Scene.told("1;-1;2").needless(), 4);
        due("1;-1;1", Scene.told("1;-1;1").needless(), 5);
        due("1;-1;1;-1", Scene.told("1;-1;1;-1").needless(), 15);
        due("never", Scene.NEVER.make().needless(), 0);
    }

    private static void learnedAreNotInTheSet() {
        due("in the middle", Scene.MIDDLE.make().needless(), Scene.told(5, Scene.LEARNS).needless());
        ClauseWatch full = Scene.FULL.make();
        due("full", full.needless(), Scene.told(9, Scene.LEARNS_SIXTY).needless());
        due("full: told ones alone", full.needless() & ~0xFFFFF, 0);
    }

    // ---- Promise 15

    private static void dueSearched(ClauseWatch x, int first, int steps, int conflicts, int stands) {
        due("searched(" + first + ", 0)", x.searched(first, 0), steps);
        due("searched(" + first + ", 1)", x.searched(first, 1), conflicts);
        due("searched(" + first + ", 2)", x.searched(first, 2), stands);
    }

    private static void fewestSteps() {
        dueSearched(things(1), 0, 2, 0, 1);
        dueSearched(Scene.told(1, "1;-1"), 0, 2, 0, 2);
        dueSearched(things(9), 1, 10, 0, 1);
    }

    private static void fromItsBeginning() {
        ClauseWatch fits = Scene.FITS.make();
        dueSearched(fits, 0, 10, 0, 1);
        ClauseWatch never = Scene.NEVER.make();
        dueSearched(never, 0, 2, 0, 2);
        ClauseWatch middle = Scene.MIDDLE.make();
        dueSearched(middle, 0, 10, 1, 1);
        dueSearched(middle, 1, 6, 0, 1);
        ClauseWatch full = Scene.FULL.make();
        dueSearched(full, 0, 337, 60, 2);
    }

    private static void withRestartAsItIs() {
        ClauseWatch x = Scene.told(Scene.LEARNS);
        dueSearched(x, 0, 9, 1, 1);
        x.set(1, 1);
        dueSearched(x, 0, 10, 1, 1);
        x.set(1, 2);
        dueSearched(x, 0, 9, 1, 1);
        ClauseWatch sixty = Scene.told(9, Scene.LEARNS_SIXTY);
        sixty.set(1, 20);
        dueSearched(sixty, 0, 325, 60, 2);
    }

    private static void firstOfSearched() {
        ClauseWatch x = Scene.told("1,2;-1,3;-1,-3");
        for (int first = 0; first <= 1; first++) {
            x.set(2, first);
            dueSearched(x, 0, 5, 0, 1);
            dueSearched(x, 1, 8, 1, 1);
            due("FIRST stays", x.count(9), first);
        }
        for (int first : new int[] {LEAST, -1, 2, 3, MOST}) {
            Scene.MIDDLE.refuses("searched(" + first + ", 0)", y -> y.searched(first, 0), BAD_VALUE);
        }
    }

    private static void searchedWhenItFits() {
        dueSearched(new ClauseWatch(), 0, 5, 0, 1);
        dueSearched(Scene.told("1;2;3;4"), 0, 5, 0, 1);
        dueSearched(Scene.told(Scene.LEARNS), 0, 9, 1, 1);
    }

    private static void searchedWhenNever() {
        dueSearched(Scene.told("1;-1"), 1, 2, 0, 2);
        dueSearched(Scene.told("1,2;1,-2;-1,2;-1,-2"), 0, 6, 1, 2);
        dueSearched(Scene.told(9, Scene.LEARNS_SIXTY), 0, 337, 60, 2);
    }

    private static void searchedAsStepsDo() {
        for (String clauses : new String[] {Scene.LEARNS, Scene.LEARNS_SIXTY, LONGEST_OF_EIGHT, "1;-1", "1,2;-1,3"}) {
            for (int first = 0; first <= 1; first++) {
                ClauseWatch x = Scene.told(9, clauses);
                ClauseWatch stepped = Scene.told(9, clauses);
                stepped.set(2, first);
                for (int i = 0; i < 4; i++) {
                    stepped.step(500);
                }
                dueSearched(x, first, stepped.count(6), stepped.count(5), stepped.count(2));
            }
        }
    }

    private static void searchedOutOfRange() {
        for (int bad : new int[] {LEAST, -1, 2, 3, MOST}) {
            for (int what = 0; what <= 2; what++) {
                int about = what;
                Scene.FRESH.refuses("searched(" + bad + ", " + what + ")", x -> x.searched(bad, about), BAD_VALUE);
            }
        }
        for (int bad : new int[] {LEAST, -1, 3, 4, MOST}) {
            for (int first = 0; first <= 1; first++) {
                int value = first;
                Scene.FULL.refuses("searched(" + first + ", " + bad + ")", x -> x.searched(value, bad), BAD_VALUE);
            }
        }
    }

    private static String mirrored(String clauses) {
        return clauses.replaceAll("-?([1-9])", "-$0").replace("--", "");
    }

    private static void endsWithStep2000() {
        ClauseWatch x = Scene.told(9, HardSearchTest.ENDS_AT_2000);
        x.set(1, 1);
        due("searched(0, 0)", x.searched(0, 0), 2000);
        due("searched(0, 1)", x.searched(0, 1) > 0 ? 1 : 0, 1);
        due("searched(0, 2)", x.searched(0, 2), 2);
        ClauseWatch other = Scene.told(9, mirrored(HardSearchTest.ENDS_AT_2000));
        other.set(1, 1);
        dueSearched(other, 1, 2000, x.searched(0, 1), 2);
    }

    private static void openBehindStep2000() {
        ClauseWatch x = Scene.told(9, HardSearchTest.ENDS_AT_2001);
        x.set(1, 1);
        dueSearched(x, 0, NONE, NONE, NONE);
        ClauseWatch other = Scene.told(9, mirrored(HardSearchTest.ENDS_AT_2001));
        other.set(1, 1);
        dueSearched(other, 1, NONE, NONE, NONE);
        for (int i = 0; i < 4; i++) {
            due("step(500)", x.step(500), 0);
        }
        due("count(6)", x.count(6), 2000);
        due("step(1)", x.step(1), 2);
        x.set(1, 20);
        due("with RESTART 20 it is not open", x.searched(0, 2), 2);
    }

    // ---- Promise 16

    private static void dueAsIfRead(Scene scene) {
        int things = scene.make().count(7);
        for (int thing = 1; thing <= things; thing++) {
            for (int zero = 0; zero <= 1; zero++) {
                ClauseWatch read = scene.make();
                Due.reads(read, (zero == 1 ? "-" : "") + thing);
                for (int i = 0; i < 4; i++) {
                    read.step(500);
                }
                int sign = thing + 10 * zero;
                due("ifTold(" + sign + ")", scene.make().ifTold(sign), read.count(2));
            }
        }
    }

    private static void asIfRead() {
        for (String clauses : new String[] {"1,2;-1,2", "1;-2;3,-4", "1;-1", "1,2;1,-2;-1,2", Scene.LEARNS,
            "1,2,3;-1,-2,-3;4,5;-4,-5;6,7,8;-6,-7;9"}) {
            dueAsIfRead(new Scene(clauses, () -> Scene.told(9, clauses)));
        }
        dueAsIfRead(new Scene("nineteen", () -> {
            ClauseWatch x = Scene.told(9, Scene.LEARNS_SIXTY);
            x.drop(0);
            return x;
        }));
    }

    /** Values and learned clauses that are there do not matter: of the search, the told clauses alone. */
    private static void asIfReadFromTheBeginning() {
        dueAsIfRead(Scene.MIDDLE);
        dueAsIfRead(Scene.FITS);
        dueAsIfRead(Scene.NEVER);
        ClauseWatch x = Scene.FITS.make();
        due("1 has the value 0: ifTold(1)", x.ifTold(1), 1);
        due("ifTold(11)", x.ifTold(11), 1);
    }

    private static void ifToldTheTwentieth() {
        ClauseWatch x = Scene.twenty();
        x.drop(19);
        due("ifTold(3)", x.ifTold(3), 1);
        due("ifTold(13)", x.ifTold(13), 2);
        due("count(0)", x.count(0), 19);
        due("clause(19, 0)", x.clause(19, 0), NO_SUCH);
    }

    private static void eachSignOfEachThings() {
        for (int things = 1; things <= 9; things++) {
            ClauseWatch x = things(things);
            for (int sign = -1; sign <= 21; sign++) {
                int thing = sign > 10 ? sign - 10 : sign;
                boolean is = sign != 10 && thing >= 1 && thing <= things;
                due("ifTold(" + sign + ") of " + things, x.ifTold(sign), is ? 1 : BAD_VALUE);
            }
        }
    }

    private static void fitsOrNever() {
        ClauseWatch x = Scene.told(9, "9;-1");
        due("ifTold(9)", x.ifTold(9), 1);
        due("ifTold(19)", x.ifTold(19), 2);
        due("ifTold(1)", x.ifTold(1), 2);
        due("ifTold(11)", x.ifTold(11), 1);
        due("ifTold(5)", x.ifTold(5), 1);
        x = Scene.told("1;-1");
        for (int sign : new int[] {1, 11, 4, 14}) {
            due("ifTold(" + sign + "), never anyway", x.ifTold(sign), 2);
        }
    }

    private static void ifToldOutOfRange() {
        for (int sign : new int[] {LEAST, -19, -11, -10, -1, 0, 10, 20, 21, 110, MOST}) {
            Scene.FITS.refuses("ifTold(" + sign + ")", x -> x.ifTold(sign), BAD_VALUE);
        }
        for (int sign : new int[] {6, 9, 16, 19}) {
            Scene.MIDDLE.refuses("ifTold(" + sign + ")", x -> x.ifTold(sign), BAD_VALUE);
        }
        for (int sign : new int[] {5, 9, 15, 19}) {
            Scene.FRESH.refuses("ifTold(" + sign + ")", x -> x.ifTold(sign), BAD_VALUE);
        }
    }

    private static void ifToldOfTwenty() {
        for (int sign : new int[] {1, 4, 11, 14}) {
            Scene.TWENTY.refuses("ifTold(" + sign + ")", x -> x.ifTold(sign), TOO_MANY);
        }
        Scene.FULL.refuses("ifTold(19)", x -> x.ifTold(19), TOO_MANY);
        ClauseWatch x = Scene.twenty();
        x.drop(0);
        due("nineteen are not too many", x.ifTold(1), 1);
    }

    private static void longestIfTold() {
        ClauseWatch x = Scene.told(9, LONGEST_OF_EIGHT);
        x.set(1, 1);
        due("19 are told", x.count(0), 19);
        due("ifTold(9), behind 1033 steps", x.ifTold(9), 2);
        due("ifTold(19), behind 1033 steps", x.ifTold(19), 2);
        due("read of 9", Due.reads(x, "9"), 20);
        due("searched(0, 0)", x.searched(0, 0), 1033);
    }
}
