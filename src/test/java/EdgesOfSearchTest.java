/** The boundary cases that "The search" names. */
public final class EdgesOfSearchTest {
    private static final int NO_SUCH = -1, NONE = -6;

    private EdgesOfSearchTest() {
    }

    public static void main(String[] args) {
        sentences().run("EdgesOfSearchTest");
    }

    static Sentences sentences() {
        Sentences s = new Sentences();
        s.under("The search");
        s.test("Values are given in a row, the trail.", EdgesOfSearchTest::emptyTrail, EdgesOfSearchTest::fullTrail);
        s.test("Each has a level (0 at first) and a reason: the number of a clause, or none, if it was decided.",
                EdgesOfSearchTest::levels, EdgesOfSearchTest::firstReason, EdgesOfSearchTest::lastReason);
        s.test("The search is OPEN (0), FITS (1: all things have a value, and no clause is false), or NEVER (2: no "
                + "answer).", EdgesOfSearchTest::openUntilTheStepThatFits, EdgesOfSearchTest::fitsNotWithAFalseClause,
                EdgesOfSearchTest::never);
        s.test("A step of an open search does the first of these that can be done:",
                EdgesOfSearchTest::conflictAheadOfTelling, EdgesOfSearchTest::learnedConflictAheadOfTelling,
                EdgesOfSearchTest::conflictAheadOfDeciding, EdgesOfSearchTest::tellingAheadOfDeciding,
                EdgesOfSearchTest::decidingAheadOfFitting, EdgesOfSearchTest::noStepUnlessOpen);
        s.test("If a clause is false, the one with the lowest number is the conflict.", EdgesOfSearchTest::twoFalse,
                EdgesOfSearchTest::toldAndLearnedFalse);
        s.test("At the level 0 the search is NEVER then.", EdgesOfSearchTest::conflictAtLevel0,
                EdgesOfSearchTest::conflictAtLevel0BehindLearning, EdgesOfSearchTest::conflictAtLevel1);
        s.test("Otherwise it learns: the new clause is at first the conflict", EdgesOfSearchTest::keepsOfTheConflict);
        s.test("as long as it has more than one sign whose thing has the present level, the one of these whose "
                + "value was given last is taken", EdgesOfSearchTest::stopsAtOne, EdgesOfSearchTest::takesTheLastGiven,
                EdgesOfSearchTest::takesAsLongAsThereAreTwo);
        s.test("its sign goes, and all signs of its reason but that of its own thing come (each thing once).",
                EdgesOfSearchTest::eachThingOnce, EdgesOfSearchTest::shortestReason,
                EdgesOfSearchTest::longestReason);
        s.test("Then the search goes back to the greatest level of the other signs' things (0, if there are none)",
                EdgesOfSearchTest::noOthers, EdgesOfSearchTest::noOthersButOnALongerTrail,
                EdgesOfSearchTest::othersAtLevel0, EdgesOfSearchTest::othersAtTwoLevels,
                EdgesOfSearchTest::othersJustBelow);
        s.test("all values with a greater level go.", EdgesOfSearchTest::valuesOfThatLevelStay);
        s.test("The new clause is learned (if there are 40 learned ones, the earliest of those that are the reason "
                + "of no value goes ahead of that", EdgesOfSearchTest::at39NothingGoes,
                EdgesOfSearchTest::at40TheEarliestGoes, EdgesOfSearchTest::aReasonStays,
                EdgesOfSearchTest::reasonOfAValueThatWent, EdgesOfSearchTest::reasonOfAValueThatRestartTakes);
        s.test("the numbers of those behind it become less by 1, also where they are told as reasons).",
                EdgesOfSearchTest::numbersBehind, EdgesOfSearchTest::numbersAheadStay);
        s.test("The conflicts are 1 more", EdgesOfSearchTest::conflictsCount);
        s.test("if they are a multiple of RESTART then, the search goes back to the level 0.",
                EdgesOfSearchTest::restart1, EdgesOfSearchTest::restart2, EdgesOfSearchTest::restart10,
                EdgesOfSearchTest::restart20, EdgesOfSearchTest::restartSetOnTheWay);
        s.test("If a clause is not true, and all of its things but one have values, the one with the lowest number "
                + "gives that thing the value that makes it true", EdgesOfSearchTest::oneSignTells,
                EdgesOfSearchTest::nineSignsTell, EdgesOfSearchTest::twoOpenTellNothing,
                EdgesOfSearchTest::aTrueOneTellsNothing, EdgesOfSearchTest::lowestNumberTells,
                EdgesOfSearchTest::toldAheadOfLearned, EdgesOfSearchTest::bothValues);
        s.test("the reason is this clause, the level the present one (that of the value that was given last by "
                + "deciding", EdgesOfSearchTest::levelOfTheLastDecided, EdgesOfSearchTest::levelBehindGoingBack);
        s.test("0 without one).", EdgesOfSearchTest::levelWithoutDeciding);
        s.test("If a thing has no value, the lowest such thing is decided: the present level is 1 more, the value "
                + "FIRST.", EdgesOfSearchTest::lowestThingFirst, EdgesOfSearchTest::noThingAboveThings,
                EdgesOfSearchTest::nineLevels, EdgesOfSearchTest::valueFirst);
        s.test("Otherwise the search FITS.", EdgesOfSearchTest::fitsByAStep);
        s.test("When told clauses are added, one is taken away, or THINGS is set (also to what it is), the search "
                + "begins anew: no values, no learned clauses, no conflicts, no steps.",
                EdgesOfSearchTest::anewByRead, EdgesOfSearchTest::anewByDrop, EdgesOfSearchTest::anewByThings,
                EdgesOfSearchTest::anewBySameThings, EdgesOfSearchTest::notAnewByOthers);
        return s;
    }

    private static void due(String call, long got, long want) {
        Due.due(call, got, want);
    }

    private static void dueSigns(ClauseWatch x, int clause, int... want) {
        EdgesOfTermsTest.dueSigns(x, clause, want);
    }

    /** Value, level, reason and place of a thing. */
    static void dueThing(ClauseWatch x, int thing, int... want) {
        for (int what = 0; what < want.length; what++) {
            due("of(" + thing + ", " + what + ")", x.of(thing, what), want[what]);
        }
    }

    /** Told and learned clauses, how it stands, the present level, values, conflicts and steps. */
    static void dueSearch(ClauseWatch x, int... want) {
        for (int what = 0; what < want.length; what++) {
            due("count(" + what + ")", x.count(what), want[what]);
        }
    }

    private static void dueAnew(ClauseWatch x, int told) {
        dueSearch(x, told, 0, 0, 0, 0, 0, 0);
        for (int thing = 1; thing <= x.count(7); thing++) {
            dueThing(x, thing, NONE, NONE, NONE, NONE);
        }
        due("trail(0)", x.trail(0), NO_SUCH);
        due("no learned clause", x.clause(told, 0), NO_SUCH);
    }

    private static ClauseWatch stepped(String clauses, int restart, int steps) {
        ClauseWatch x = Scene.told(9, clauses);
        x.set(1, restart);
        for (int left = steps; left > 0; left -= 500) {
            x.step(Math.min(left, 500));
        }
        return x;
    }

    // ---- the trail

    private static void emptyTrail() {
        ClauseWatch x = Scene.told("1");
        due("count(4)", x.count(4), 0);
        due("count(3)", x.count(3), 0);
        due("trail(0)", x.trail(0), NO_SUCH);
        dueThing(x, 1, NONE, NONE, NONE, NONE);
        due("back(0)", x.back(0), 0);
    }

    private static void fullTrail() {
        ClauseWatch x = Scene.told(9, "9;8,-9;7,-8;6,-7;5,-6;4,-5;3,-4;2,-3;1,-2");
        due("step(9)", x.step(9), 0);
        due("count(4)", x.count(4), 9);
        for (int place = 0; place < 9; place++) {
            due("trail(" + place + ")", x.trail(place), 9 - place);
            dueThing(x, 9 - place, 1, 0, place, place);
        }
        due("trail(9)", x.trail(9), NO_SUCH);
        due("step(1)", x.step(1), 1);
        due("count(4)", x.count(4), 9);
    }

    private static void levels() {
        ClauseWatch x = Scene.told("2;1,-3");
        x.step(4);
        dueThing(x, 2, 1, 0, 0, 0);
        dueThing(x, 1, 0, 1, NONE, 1);
        dueThing(x, 3, 0, 1, 1, 2);
        dueThing(x, 4, 0, 2, NONE, 3);
    }

    private static void firstReason() {
        ClauseWatch x = Scene.told("3");
        x.step(2);
        due("of(3, 2), the clause 0", x.of(3, 2), 0);
        due("of(1, 2), decided", x.of(1, 2), NONE);
    }

    private static void lastReason() {
        ClauseWatch x = Scene.told("1,2;1,3;1,4;2,3;2,4;3,4;1,2,3;1,2,4;1,3,4;2,3,4;1,2,3,4;1,2;1,3;1,4;2,3;2,4;3,4"
                + ";1,2;1,3");
        Due.reads(x, "-4");
        x.step(1);
        due("of(4, 2), the last of twenty", x.of(4, 2), 19);
        due("of(4, 0)", x.of(4, 0), 0);
        x = Scene.FULL.make();
        x.step(1);
        due("of(6, 2), the last of sixty", x.of(6, 2), 59);
        due("of(6, 1)", x.of(6, 1), 2);
    }

    // ---- how it stands

    private static void openUntilTheStepThatFits() {
        ClauseWatch x = new ClauseWatch();
        x.set(0, 1);
        due("step(1), all things have values", x.step(1), 0);
        due("count(4)", x.count(4), 1);
        due("count(2)", x.count(2), 0);
        due("step(1)", x.step(1), 1);
        due("count(2)", x.count(2), 1);
    }

    private static void fitsNotWithAFalseClause() {
        ClauseWatch x = Scene.told(2, "1,2;1,-2");
        due("step(2), all things have values", x.step(2), 0);
        due("count(4)", x.count(4), 2);
        due("one is false", x.clause(1, 11), 1);
        due("step(1)", x.step(1), 0);
        due("it has learned", x.count(1), 1);
        x = Scene.told(1, "1;-1");
        due("step(1), all things have values", x.step(1), 0);
        due("step(1), but not FITS", x.step(1), 2);
    }

    private static void never() {
        ClauseWatch x = Scene.told("1,2;1,-2;-1,2;-1,-2");
        due("step(500)", x.step(500), 2);
        due("count(2)", x.count(2), 2);
        due("answers()", x.answers(), 0);
    }

    // ---- the order of what a step does

    /** 1 is decided, 2 told; then the last clause is false, and the second and the third would tell. */
    private static void conflictAheadOfTelling() {
        ClauseWatch x = Scene.told("1,2;1,3;1,-3;1,-2");
        x.step(2);
        due("the last is false", x.clause(3, 11), 1);
        due("the second would tell", x.clause(1, 12) - x.clause(1, 10), 1);
        due("step(1)", x.step(1), 0);
        dueSearch(x, 4, 1, 0, 0, 0, 1, 3);
        dueSigns(x, 4, 1);
    }

    /** 1 is decided, the second tells that 2 is 0, against the learned 1,2; the first and third would tell. */
    private static void learnedConflictAheadOfTelling() {
        ClauseWatch x = Scene.told("1,2,4;1,-2,-3;2,-3,-4;3,-4;3,4");
        x.set(1, 1);
        x.step(13);
        dueSigns(x, 5, 1, 2);
        dueSigns(x, 6, 3);
        due("the learned one is false", x.clause(5, 11), 1);
        due("the first would tell", x.clause(0, 12) - x.clause(0, 10), 1);
        x.step(1);
        due("conflicts", x.count(5), 3);
        dueSigns(x, 7, 1, 13);
    }

    private static void conflictAheadOfDeciding() {
        ClauseWatch x = Scene.told("1,2;1,-2");
        x.step(2);
        due("two things are open", x.count(4), 2);
        x.step(1);
        dueSearch(x, 2, 1, 0, 0, 0, 1, 3);
    }

    private static void tellingAheadOfDeciding() {
        ClauseWatch x = Scene.told("4");
        x.step(1);
        due("trail(0)", x.trail(0), 4);
        due("count(3)", x.count(3), 0);
        x = Scene.told("1,-4");
        x.step(2);
        due("trail(1)", x.trail(1), 4);
        due("count(3)", x.count(3), 1);
    }

    private static void decidingAheadOfFitting() {
        ClauseWatch x = Scene.told("1;2;3");
        due("step(3), no clause is false", x.step(3), 0);
        due("step(1), the last thing is decided", x.step(1), 0);
        dueThing(x, 4, 0, 1, NONE, 3);
        due("step(1)", x.step(1), 1);
    }

    private static void noStepUnlessOpen() {
        ClauseWatch fits = Scene.FITS.make();
        int steps = fits.count(6);
        due("step(500)", fits.step(500), 1);
        due("count(6)", fits.count(6), steps);
        ClauseWatch never = Scene.NEVER.make();
        due("step(500)", never.step(500), 2);
        due("count(6)", never.count(6), 2);
    }

    // ---- conflicts

    /** Of two that are false, the first is the conflict: from the other one, 2 would be learned. */
    private static void twoFalse() {
        ClauseWatch x = Scene.told("2,3;1,2,-3;2,-3");
        x.step(3);
        due("two are false", x.clause(1, 11) + x.clause(2, 11), 2);
        x.step(1);
        dueSigns(x, 3, 1, 2);
        x = Scene.told("2,3;2,-3;1,2,-3");
        x.step(4);
        dueSigns(x, 3, 2);
    }

    /** A told one is false, and a learned one, from which 1,3 would be learned. */
    private static void toldAndLearnedFalse() {
        ClauseWatch x = Scene.told("-2,3,4;-3,4;2,3,4;1,3,-4;1,-2,-4;-3,-4");
        x.step(12);
        dueSigns(x, 6, 1, 2, 3);
        dueSigns(x, 7, 13);
        due("both are false", x.clause(2, 11) + x.clause(6, 11), 2);
        x.step(1);
        dueSigns(x, 8, 3, 4);
        dueSearch(x, 6, 3, 0, 0, 1, 3, 13);
    }

    private static void conflictAtLevel0() {
        ClauseWatch x = Scene.told("1;-1");
        due("step(1)", x.step(1), 0);
        due("step(1)", x.step(1), 2);
        dueSearch(x, 2, 0, 2, 0, 1, 0, 2);
        dueThing(x, 1, 1, 0, 0, 0);
    }

    /** 1 is learned; at the level 0 it is told then, and 2 by the third clause; the fourth is false. */
    private static void conflictAtLevel0BehindLearning() {
        ClauseWatch x = Scene.told("1,2;1,-2;-1,2;-1,-2");
        due("step(5)", x.step(5), 0);
        due("the fourth is false", x.clause(3, 11), 1);
        due("step(1)", x.step(1), 2);
        dueSearch(x, 4, 1, 2, 0, 2, 1, 6);
        dueThing(x, 1, 1, 0, 4, 0);
        dueThing(x, 2, 1, 0, 2, 1);
    }

    private static void conflictAtLevel1() {
        ClauseWatch x = Scene.told("1,2;1,-2");
        x.step(2);
        due("the present level", x.count(3), 1);
        due("step(1)", x.step(1), 0);
        dueSearch(x, 2, 1, 0, 0, 0, 1, 3);
    }

    // ---- what is learned

    /** The signs of lower levels stay in it: 1 of the level 1, and -4 of the level 0. */
    private static void keepsOfTheConflict() {
        ClauseWatch x = Scene.told("4;2,3;1,2,-3,-4");
        due("step(4)", x.step(4), 0);
        due("the third is false", x.clause(2, 11), 1);
        x.step(1);
        dueSigns(x, 3, 1, 2, 14);
        due("back at the level of 1", x.count(3), 1);
    }

    /** 2 alone has the present level behind two takings; not what was decided, 1, is learned. */
    private static void stopsAtOne() {
        ClauseWatch x = Scene.told("1,2;-2,3;-2,4;-3,-4");
        due("step(4)", x.step(4), 0);
        due("the fourth is false", x.clause(3, 11), 1);
        x.step(1);
        dueSigns(x, 4, 12);
        x.step(1);
        dueThing(x, 2, 0, 0, 4, 0);
    }

    /** 2 was given behind 4; from 4, the greater thing, 1 would be learned. */
    private static void takesTheLastGiven() {
        ClauseWatch x = Scene.told("1,4;2,-4;-2,-4");
        x.step(3);
        due("trail(1)", x.trail(1), 4);
        due("trail(2)", x.trail(2), 2);
        x.step(1);
        dueSigns(x, 3, 14);
    }

    /** 5, 4 and 3 are taken one behind the other, until the decided 2 is left alone of its level. */
    private static void takesAsLongAsThereAreTwo() {
        ClauseWatch x = Scene.told(5, "2,3;2,-3,4;1,-3,-4,5;2,-4,-5");
        x.step(5);
        due("the fourth is false", x.clause(3, 11), 1);
        x.step(1);
        dueSigns(x, 4, 1, 2);
        dueSearch(x, 4, 1, 0, 1, 1, 1, 6);
    }

    private static void eachThingOnce() {
        ClauseWatch x = Scene.told("1,2,3,4;1,2,3,-4");
        x.step(5);
        dueSigns(x, 2, 1, 2, 3);
    }

    /** The reason has one other sign, which takes the place of its own. */
    private static void shortestReason() {
        ClauseWatch x = Scene.told("1,2;1,-2");
        x.step(3);
        dueSigns(x, 2, 1);
    }

    /** A conflict of two signs, and a reason of eight other ones: 3 to 7 come, and 1 and 2, which are not new. */
    private static void longestReason() {
        ClauseWatch x = Scene.told(9, "1,2,3,4,5,6,7,8,9;8,-9");
        x.step(10);
        dueSigns(x, 2, 1, 2, 3, 4, 5, 6, 7, 8);
        dueSearch(x, 2, 1, 0, 7, 7, 1, 10);
    }

    // ---- the way back

    private static void noOthers() {
        ClauseWatch x = Scene.told("3,4;3,-4");
        due("step(4)", x.step(4), 0);
        due("the present level", x.count(3), 3);
        x.step(1);
        dueSigns(x, 2, 3);
        dueSearch(x, 2, 1, 0, 0, 0, 1, 5);
        due("trail(0)", x.trail(0), NO_SUCH);
    }

    /** 3, of which alone the second conflict's new clause is, was at the fifth place with the level 1 ahead of that. */
    private static void noOthersButOnALongerTrail() {
        ClauseWatch x = Scene.told(5, "2,-5;4,-5;-1,5;-1,3;-3,-5;-3,5");
        x.set(2, 1);
        x.step(5);
        dueThing(x, 3, 1, 1, 3, 4);
        x.step(1);
        dueSigns(x, 6, 11);
        x.step(4);
        dueSearch(x, 6, 1, 0, 2, 4, 1, 10);
        dueThing(x, 3, 1, 2, NONE, 2);
        x.step(1);
        dueSigns(x, 7, 13);
        dueSearch(x, 6, 2, 0, 0, 1, 2, 11);
        x.step(1);
        dueThing(x, 3, 0, 0, 7, 1);
    }

    private static void othersAtLevel0() {
        ClauseWatch x = Scene.told("-1;1,2,3;1,2,-3");
        due("step(3)", x.step(3), 0);
        due("the present level", x.count(3), 1);
        x.step(1);
        dueSigns(x, 3, 1, 2);
        dueSearch(x, 3, 1, 0, 0, 1, 1, 4);
        dueThing(x, 1, 0, 0, 0, 0);
        dueThing(x, 2, NONE, NONE, NONE, NONE);
    }

    /** The other signs' things have the levels 1 and 2, the present level is 4. */
    private static void othersAtTwoLevels() {
        ClauseWatch x = Scene.told(5, "1,2,4,5;1,2,4,-5");
        due("step(5)", x.step(5), 0);
        due("the present level", x.count(3), 4);
        x.step(1);
        dueSigns(x, 2, 1, 2, 4);
        dueSearch(x, 2, 1, 0, 2, 2, 1, 6);
        dueThing(x, 2, 0, 2, NONE, 1);
        dueThing(x, 3, NONE, NONE, NONE, NONE);
        x.step(1);
        dueThing(x, 4, 1, 2, 2, 2);
    }

    private static void othersJustBelow() {
        ClauseWatch x = Scene.told("2,3,4;2,3,-4");
        x.step(4);
        due("the present level", x.count(3), 3);
        x.step(1);
        dueSigns(x, 2, 2, 3);
        dueSearch(x, 2, 1, 0, 2, 2, 1, 5);
    }

    /** 6 follows at the level 2, and stays; 3 was decided at the level 3, and goes. */
    private static void valuesOfThatLevelStay() {
        ClauseWatch x = Scene.told(6, "2,6;1,2,4,5;1,2,4,-5");
        x.step(6);
        due("the present level", x.count(3), 4);
        x.step(1);
        dueSearch(x, 3, 1, 0, 2, 3, 1, 7);
        dueThing(x, 1, 0, 1, NONE, 0);
        dueThing(x, 2, 0, 2, NONE, 1);
        dueThing(x, 6, 1, 2, 0, 2);
        dueThing(x, 3, NONE, NONE, NONE, NONE);
        dueThing(x, 4, NONE, NONE, NONE, NONE);
        dueThing(x, 5, NONE, NONE, NONE, NONE);
    }

    // ---- forty learned ones

    private static void at39NothingGoes() {
        ClauseWatch x = stepped(Scene.LEARNS_SIXTY, 10, 221);
        due("learned", x.count(1), 39);
        x.step(1);
        dueSearch(x, 20, 40, 0, 0, 1, 40, 222);
        dueSigns(x, 20, 2, 3, 4, 5, 6);
        dueSigns(x, 58, 2, 3);
        dueSigns(x, 59, 2, 4, 5);
        due("of(1, 2)", x.of(1, 2), 53);
    }

    private static void at40TheEarliestGoes() {
        ClauseWatch x = stepped(Scene.LEARNS_SIXTY, 10, 229);
        due("learned", x.count(1), 40);
        dueSigns(x, 20, 2, 3, 4, 5, 6);
        x.step(1);
        due("learned", x.count(1), 40);
        due("conflicts", x.count(5), 41);
        dueSigns(x, 20, 1, 2, 3, 4, 5);
        dueSigns(x, 58, 2, 4, 5);
        dueSigns(x, 59, 2, 4, 15, 6);
        due("clause(60, 0)", x.clause(60, 0), NO_SUCH);
    }

    /** 5 is 1 at the level 0 by the earliest, which stays; the next one goes. */
    private static void aReasonStays() {
        ClauseWatch x = stepped(HardSearchTest.KEEPS_A_REASON, 14, 227);
        due("learned", x.count(1), 40);
        due("of(5, 2)", x.of(5, 2), 20);
        dueSigns(x, 20, 5);
        dueSigns(x, 21, 1, 2, 3, 4, 15, 6, 7);
        dueSigns(x, 22, 1, 2, 3, 4, 15, 6);
        x.step(1);
        due("conflicts", x.count(5), 41);
        due("learned", x.count(1), 40);
        dueSigns(x, 20, 5);
        dueSigns(x, 21, 1, 2, 3, 4, 15, 6);
        dueSigns(x, 59, 3, 4, 15);
    }

    /** The earliest is the reason of a value that goes on the way back, and so of none when the new one comes. */
    private static void reasonOfAValueThatWent() {
        ClauseWatch x = stepped(HardSearchTest.ENDS_AT_2000, 1, 1109);
        due("of(2, 2)", x.of(2, 2), 20);
        due("of(2, 1)", x.of(2, 1), 1);
        dueSigns(x, 20, 1, 2);
        dueSigns(x, 21, 3, 5, 17, 8);
        x.step(1);
        due("conflicts", x.count(5), 111);
        dueSigns(x, 59, 1);
        dueSigns(x, 20, 3, 5, 17, 8);
        dueSigns(x, 21, 3, 14, 5);
    }

    /** The way back to the level 0 comes behind the learning: the reason of 2 at the level 1 stays. */
    private static void reasonOfAValueThatRestartTakes() {
        ClauseWatch x = stepped(HardSearchTest.ENDS_AT_2000, 1, 939);
        due("of(2, 2)", x.of(2, 2), 20);
        due("of(2, 1)", x.of(2, 1), 1);
        dueSigns(x, 20, 1, 2);
        dueSigns(x, 21, 3, 4, 5, 6, 7, 8);
        dueSigns(x, 22, 3, 4, 5, 6, 7);
        x.step(1);
        due("conflicts", x.count(5), 94);
        due("values, none at the level 0", x.count(4), 0);
        dueSigns(x, 59, 12, 13, 4, 16, 7, 8);
        dueSigns(x, 20, 1, 2);
        dueSigns(x, 21, 3, 4, 5, 6, 7);
    }

    private static void numbersBehind() {
        ClauseWatch x = stepped(Scene.LEARNS_SIXTY, 10, 229);
        due("of(1, 2)", x.of(1, 2), 53);
        due("of(3, 2)", x.of(3, 2), 58);
        due("of(5, 2)", x.of(5, 2), 59);
        dueSigns(x, 53, 1);
        dueSigns(x, 58, 2, 3);
        dueSigns(x, 59, 2, 4, 5);
        x.step(1);
        due("of(1, 2)", x.of(1, 2), 52);
        due("of(3, 2)", x.of(3, 2), 57);
        due("of(5, 2)", x.of(5, 2), 58);
        dueSigns(x, 52, 1);
        dueSigns(x, 57, 2, 3);
        dueSigns(x, 58, 2, 4, 5);
    }

    /** 21 goes; the reason 20 stays 20, and 12, that of a told one, 12. */
    private static void numbersAheadStay() {
        ClauseWatch x = stepped(HardSearchTest.KEEPS_A_REASON, 14, 228);
        due("of(5, 2)", x.of(5, 2), 20);
        due("of(1, 2)", x.of(1, 2), 45);
        due("of(2, 2)", x.of(2, 2), 57);
        due("of(3, 2), decided", x.of(3, 2), NONE);
        x = stepped(HardSearchTest.KEEPS_A_REASON, 14, 253);
        due("conflicts", x.count(5), 45);
        due("of(5, 2)", x.of(5, 2), 20);
        due("of(8, 2)", x.of(8, 2), 12);
        due("of(6, 2)", x.of(6, 2), 58);
        due("of(4, 2), decided", x.of(4, 2), NONE);
    }

    // ---- conflicts and RESTART

    private static void conflictsCount() {
        ClauseWatch x = Scene.told("1,2;1,-2;-1,2;-1,-2");
        x.step(2);
        due("count(5), a clause is false", x.count(5), 0);
        x.step(1);
        due("count(5), behind the step", x.count(5), 1);
        due("step(500)", x.step(500), 2);
        due("count(5), the conflict at the level 0 is not learned from", x.count(5), 1);
        due("count(5), sixty", stepped(Scene.LEARNS_SIXTY, 10, 500).count(5), 60);
    }

    private static void restart1() {
        ClauseWatch x = Scene.told(Scene.LEARNS);
        x.set(1, 1);
        x.step(5);
        dueSearch(x, 3, 1, 0, 0, 0, 1, 5);
        dueSigns(x, 3, 1, 13);
        x.step(2);
        dueThing(x, 1, 0, 1, NONE, 0);
        dueThing(x, 3, 0, 1, 3, 1);
    }

    /** Conflicts 1 and 2; the second would go back to the level 1 alone. */
    private static void restart2() {
        ClauseWatch x = Scene.told(9, Scene.LEARNS_SIXTY);
        x.set(1, 2);
        x.step(10);
        dueSearch(x, 20, 1, 0, 5, 5, 1, 10);
        x.step(4);
        dueSearch(x, 20, 2, 0, 0, 0, 2, 14);
        ClauseWatch without = stepped(Scene.LEARNS_SIXTY, 10, 14);
        dueSearch(without, 20, 2, 0, 4, 4, 2, 14);
    }

    private static void restart10() {
        dueSearch(stepped(Scene.LEARNS_SIXTY, 10, 50), 20, 9, 0, 4, 5, 9, 50);
        dueSearch(stepped(Scene.LEARNS_SIXTY, 10, 54), 20, 10, 0, 0, 0, 10, 54);
        dueSearch(stepped(Scene.LEARNS_SIXTY, 10, 63), 20, 11, 0, 3, 5, 11, 63);
        dueSearch(stepped(Scene.LEARNS_SIXTY, 11, 54), 20, 10, 0, 3, 4, 10, 54);
    }

    private static void restart20() {
        dueSearch(stepped(Scene.LEARNS_SIXTY, 20, 54), 20, 10, 0, 3, 4, 10, 54);
        dueSearch(stepped(Scene.LEARNS_SIXTY, 20, 103), 20, 19, 0, 4, 6, 19, 103);
        dueSearch(stepped(Scene.LEARNS_SIXTY, 20, 106), 20, 20, 0, 0, 0, 20, 106);
        dueSearch(stepped(Scene.LEARNS_SIXTY, 20, 115), 20, 21, 0, 2, 4, 21, 115);
        dueSearch(stepped(Scene.LEARNS_SIXTY, 20, 160), 20, 30, 0, 2, 5, 30, 160);
    }

    /** RESTART as it is when the conflict comes; all conflicts of this search count. */
    private static void restartSetOnTheWay() {
        ClauseWatch x = stepped(Scene.LEARNS_SIXTY, 10, 10);
        x.set(1, 2);
        x.step(4);
        dueSearch(x, 20, 2, 0, 0, 0, 2, 14);
        x = stepped(Scene.LEARNS_SIXTY, 10, 50);
        x.set(1, 11);
        x.step(4);
        dueSearch(x, 20, 10, 0, 3, 4, 10, 54);
    }

    // ---- clauses that tell

    private static void oneSignTells() {
        ClauseWatch x = Scene.told("3;-2");
        x.step(2);
        dueThing(x, 3, 1, 0, 0, 0);
        dueThing(x, 2, 0, 0, 1, 1);
    }

    private static void nineSignsTell() {
        ClauseWatch x = Scene.told(9, "1,2,3,4,5,6,7,8,9");
        x.step(8);
        due("eight have values", x.count(4), 8);
        x.step(1);
        dueThing(x, 9, 1, 8, 0, 8);
        due("step(1)", x.step(1), 1);
    }

    private static void twoOpenTellNothing() {
        ClauseWatch x = Scene.told("1,2,3");
        x.step(1);
        due("two are open", x.clause(0, 12), 2);
        x.step(1);
        dueThing(x, 2, 0, 2, NONE, 1);
        due("one is open", x.clause(0, 12), 1);
        x.step(1);
        dueThing(x, 3, 1, 2, 0, 2);
    }

    private static void aTrueOneTellsNothing() {
        ClauseWatch x = Scene.told("-1,2");
        x.step(1);
        due("it is true", x.clause(0, 10), 1);
        due("one is open", x.clause(0, 12), 1);
        x.step(1);
        dueThing(x, 2, 0, 2, NONE, 1);
    }

    private static void lowestNumberTells() {
        ClauseWatch x = Scene.told("1,4;1,3;1,2");
        x.step(4);
        due("trail(1)", x.trail(1), 4);
        due("trail(2)", x.trail(2), 3);
        due("trail(3)", x.trail(3), 2);
        x = Scene.told("1,2;1,2");
        x.step(2);
        due("of(2, 2), two that are the same", x.of(2, 2), 0);
    }

    /** The told 1,5 and the learned 1,2 tell both; then of two learned ones, the earlier one tells. */
    private static void toldAheadOfLearned() {
        ClauseWatch x = Scene.told(5, "2,-3;4,5;1,5;1,2,3");
        x.set(1, 1);
        x.step(6);
        dueSigns(x, 4, 1, 2);
        due("count(4)", x.count(4), 1);
        x.step(2);
        dueThing(x, 5, 1, 1, 2, 1);
        dueThing(x, 2, 1, 1, 4, 2);
        x = Scene.told("2,3;1,2,-3;1,3,4;3,-4");
        x.set(1, 1);
        x.step(10);
        dueSigns(x, 4, 1, 2);
        dueSigns(x, 5, 1, 3);
        x.step(2);
        dueThing(x, 2, 1, 1, 4, 1);
        dueThing(x, 3, 1, 1, 5, 2);
    }

    private static void bothValues() {
        ClauseWatch x = Scene.told("1,2;1,-3");
        x.step(3);
        dueThing(x, 2, 1, 1, 0, 1);
        dueThing(x, 3, 0, 1, 1, 2);
    }

    private static void levelOfTheLastDecided() {
        ClauseWatch x = Scene.told(5, "1,2;3,4;3,5");
        x.step(5);
        dueThing(x, 2, 1, 1, 0, 1);
        dueThing(x, 3, 0, 2, NONE, 2);
        dueThing(x, 4, 1, 2, 1, 3);
        dueThing(x, 5, 1, 2, 2, 4);
        due("count(3)", x.count(3), 2);
    }

    private static void levelBehindGoingBack() {
        ClauseWatch x = Scene.told(Scene.LEARNS);
        x.step(6);
        dueThing(x, 3, 0, 1, 3, 1);
        due("back(0)", x.back(0), 0);
        x.step(2);
        dueThing(x, 1, 0, 1, NONE, 0);
        dueThing(x, 3, 0, 1, 3, 1);
    }

    private static void levelWithoutDeciding() {
        ClauseWatch x = Scene.told("1;-1,2;-2,3");
        x.step(3);
        for (int thing = 1; thing <= 3; thing++) {
            dueThing(x, thing, 1, 0, thing - 1, thing - 1);
        }
        due("count(3)", x.count(3), 0);
        x.step(1);
        due("of(4, 1)", x.of(4, 1), 1);
        x = Scene.told("1,2;1,-2");
        x.step(4);
        dueThing(x, 1, 1, 0, 2, 0);
    }

    // ---- deciding, fitting

    private static void lowestThingFirst() {
        ClauseWatch x = Scene.told("1;3");
        x.step(4);
        dueThing(x, 2, 0, 1, NONE, 2);
        dueThing(x, 4, 0, 2, NONE, 3);
    }

    private static void noThingAboveThings() {
        ClauseWatch x = new ClauseWatch();
        x.set(0, 3);
        due("step(3)", x.step(3), 0);
        due("count(4)", x.count(4), 3);
        due("step(1)", x.step(1), 1);
        due("count(4)", x.count(4), 3);
        x.set(0, 1);
        due("step(1)", x.step(1), 0);
        due("step(1)", x.step(1), 1);
    }

    private static void nineLevels() {
        ClauseWatch x = Scene.FITS.make();
        for (int thing = 1; thing <= 9; thing++) {
            dueThing(x, thing, 0, thing, NONE, thing - 1);
        }
        due("count(3)", x.count(3), 9);
    }

    private static void valueFirst() {
        ClauseWatch x = new ClauseWatch();
        x.step(1);
        x.set(2, 1);
        x.step(1);
        x.set(2, 0);
        x.step(1);
        for (int thing = 1; thing <= 3; thing++) {
            dueThing(x, thing, thing == 2 ? 1 : 0, thing, NONE, thing - 1);
        }
    }

    private static void fitsByAStep() {
        ClauseWatch x = new ClauseWatch();
        due("step(4)", x.step(4), 0);
        due("count(6)", x.count(6), 4);
        due("step(1)", x.step(1), 1);
        dueSearch(x, 0, 0, 1, 4, 4, 0, 5);
    }

    // ---- what begins the search anew

    /** Open with a learned clause, values and a conflict; fitting; never. */
    private static Scene[] begun() {
        return new Scene[] {Scene.MIDDLE, new Scene("it fits", () -> {
            ClauseWatch x = Scene.told(5, Scene.LEARNS);
            x.step(500);
            return x;
        }), new Scene("never", () -> {
            ClauseWatch x = Scene.told(5, "1,2;1,-2;-1,2;-1,-2");
            x.step(500);
            return x;
        }), Scene.FULL};
    }

    private static void anewByRead() {
        for (Scene scene : begun()) {
            ClauseWatch x = scene.make();
            if (x.count(0) < 20) {
                int told = x.count(0);
                due("read", Due.reads(x, "1"), told + 1);
                dueAnew(x, told + 1);
                due("the new one is told", x.clause(told, 1), 1);
            }
        }
    }

    private static void anewByDrop() {
        for (Scene scene : begun()) {
            ClauseWatch x = scene.make();
            int told = x.count(0);
            due("drop", x.drop(told - 1), told - 1);
            dueAnew(x, told - 1);
        }
    }

    private static void anewByThings() {
        for (Scene scene : begun()) {
            ClauseWatch x = scene.make();
            int told = x.count(0);
            if (x.count(7) < 9) {
                due("set(0, 9)", x.set(0, 9), 5);
                dueAnew(x, told);
                due("set(0, 4)", x.set(0, 4), 9);
                dueAnew(x, told);
            }
        }
    }

    private static void anewBySameThings() {
        for (Scene scene : begun()) {
            ClauseWatch x = scene.make();
            int told = x.count(0);
            int things = x.count(7);
            due("set(0, " + things + ")", x.set(0, things), things);
            dueAnew(x, told);
        }
    }

    /** RESTART, FIRST, going back, undo, saving, texts and questions leave what was learned. */
    private static void notAnewByOthers() {
        for (Scene scene : begun()) {
            scene.sameSearchAs("behind set(1, ..) twice", () -> {
                ClauseWatch x = scene.make();
                int restart = x.count(8);
                x.set(1, 1);
                x.set(1, restart);
                return x;
            });
            scene.sameSearchAs("behind set(2, ..) twice", () -> {
                ClauseWatch x = scene.make();
                int first = x.count(9);
                x.set(2, 1 - first);
                x.set(2, first);
                return x;
            });
            scene.sameSearchAs("behind wipe and put", () -> {
                ClauseWatch x = scene.make();
                x.wipe();
                Due.puts(x, "2,3");
                return x;
            });
            scene.sameSearchAs("behind a read that is refused", () -> {
                ClauseWatch x = scene.make();
                Due.reads(x, "2,");
                return x;
            });
            scene.sameSearchAs("behind save", () -> {
                ClauseWatch x = scene.make();
                x.save(0);
                return x;
            });
        }
    }
}
