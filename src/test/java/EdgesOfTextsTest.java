/** The boundary cases that "Texts" names, and the promises 17 to 19. */
public final class EdgesOfTextsTest {
    private static final int NO_SUCH = -1, BAD_VALUE = -2, BAD_TEXT = -3, TOO_MANY = -4, NONE = -6;
    private static final int MOST = 60;

    private EdgesOfTextsTest() {
    }

    public static void main(String[] args) {
        sentences().run("EdgesOfTextsTest");
    }

    static Sentences sentences() {
        Sentences s = new Sentences();
        s.under("Texts");
        s.test("The pad is a text of at most 60 characters", EdgesOfTextsTest::emptyPad, EdgesOfTextsTest::fullPad);
        s.test("clauses with \";\" between them", EdgesOfTextsTest::manyClauses, EdgesOfTextsTest::noClauseBetween);
        s.test("a clause is signs with \",\" between them", EdgesOfTextsTest::manySigns,
                EdgesOfTextsTest::noSignBetween);
        s.test("a sign is a digit from 1 to 9 (to be 1), or \"-\" and such a digit (to be 0).",
                EdgesOfTextsTest::digits, EdgesOfTextsTest::minusAndDigits, EdgesOfTextsTest::everyCode);
        s.test("Within a clause the digits ascend.", EdgesOfTextsTest::ascending,
                EdgesOfTextsTest::anewInEachClause);
        s.test("The fault is the index of the first character that cannot stand at its place when the text is read "
                + "from left to right (also a digit that does not ascend, and a \",\" behind a 9",
                EdgesOfTextsTest::firstOfMany, EdgesOfTextsTest::firstAndLastPlace,
                EdgesOfTextsTest::digitThatDoesNotAscend, EdgesOfTextsTest::commaBehindNine,
                EdgesOfTextsTest::allShortTexts);
        s.test("THINGS does not matter)", EdgesOfTextsTest::thingsDoNotMatter);
        s.test("if there is none and the text ends too early (also if it is empty), it is the length of the text.",
                EdgesOfTextsTest::empty, EdgesOfTextsTest::endsTooEarly, EdgesOfTextsTest::fullAndTooEarly);
        s.test("The constants: `NO_SUCH = -1, BAD_VALUE = -2, BAD_TEXT = -3, TOO_MANY = -4, NOT_POSSIBLE = -5, "
                + "NONE = -6`: Error codes, and NONE: there is none.", EdgesOfTextsTest::errorCodes);
        s.test("`OPEN = 0, FITS = 1, NEVER = 2`: How the search stands.", EdgesOfTextsTest::howItStands);
        s.namesNone("Ahead of the calls `set`, `read`, `drop`, `step`, `back` the interface says: ---- changes.");
        s.test("Ahead of the calls `of`, `trail`, `clause`, `count` the interface says: ---- what there is.",
                EdgesOfTextsTest::whatThereIsStays);
        s.test("Ahead of the calls `answers`, `inAnswers`, `follows`, `needless`, `searched`, `ifTold` the "
                + "interface says: ---- answers", EdgesOfTextsTest::answersLeave);
        s.test("nothing changes.", EdgesOfTextsTest::answersLeave);
        s.namesNone("Ahead of the calls `put`, `wipe`, `fault` the interface says: ---- texts.");
        s.namesNone("Ahead of the calls `undo`, `save`, `restore` the interface says: ---- undo, saving.");
        promises17To19(s);
        return s;
    }

    private static void promises17To19(Sentences s) {
        s.under("Promise 17: put");
        s.test("Appends characters to the pad.", EdgesOfTextsTest::behindTheOthers);
        s.test("They are given as a number: its lowest 8 bits are the last character, the next 8 bits the one "
                + "before, and so on", EdgesOfTextsTest::orderOfCharacters);
        s.test("8 bits that are 0 mean that there are no more characters, and everything above them has to be 0, "
                + "too.", EdgesOfTextsTest::endOfCharacters);
        s.test("`characters`: 1 to 8 characters", EdgesOfTextsTest::oneToEight);
        s.test("Returns the length of the pad then", EdgesOfTextsTest::lengthThen);
        s.test("BAD_VALUE if there is no character, a code is not 33 to 126, or a bit above 8 bits that are 0 is "
                + "not 0", EdgesOfTextsTest::noCharacter, EdgesOfTextsTest::everyCodeAtEveryPlace,
                EdgesOfTextsTest::everyBitAbove, EdgesOfTermsTest::orderOfPut);
        s.test("TOO_MANY if the pad would be longer than 60.", EdgesOfTextsTest::everyLength,
                EdgesOfTextsTest::longerThan60);
        s.under("Promise 18: wipe");
        s.test("Empties the pad, and returns the length that it had.", EdgesOfTextsTest::wipesEmpty,
                EdgesOfTextsTest::wipesOne, EdgesOfTextsTest::wipesFull, EdgesOfTextsTest::wipesThePadAlone);
        s.under("Promise 19: fault");
        s.test("Returns the fault of the pad, NONE if there is none.", EdgesOfTextsTest::leastAndMostFault,
                EdgesOfTextsTest::noFault, EdgesOfTextsTest::faultLeaves);
    }

    private static void due(String call, long got, long want) {
        Due.due(call, got, want);
    }

    private static void dueFault(String text, int want) {
        ClauseWatch x = new ClauseWatch();
        x.set(0, 9);
        due("length of " + text, Due.puts(x, text), text.length());
        due("fault() of " + text, x.fault(), want);
        due("read() of " + text + " is refused", x.read() == BAD_TEXT ? 1 : 0, want == NONE ? 0 : 1);
    }

    private static void dueWhole(String text, int clauses) {
        ClauseWatch x = new ClauseWatch();
        x.set(0, 9);
        Due.puts(x, text);
        due("fault() of " + text, x.fault(), NONE);
        due("read() of " + text, x.read(), clauses);
    }

    // ---- Texts

    private static void emptyPad() {
        ClauseWatch x = new ClauseWatch();
        due("count(10)", x.count(10), 0);
        due("fault()", x.fault(), 0);
        due("wipe()", x.wipe(), 0);
        due("read()", x.read(), BAD_TEXT);
    }

    private static void fullPad() {
        ClauseWatch x = new ClauseWatch();
        due("59", Due.puts(x, "1".repeat(59)), 59);
        due("60", x.put('1'), 60);
        due("61", x.put('1'), TOO_MANY);
        due("count(10)", x.count(10), 60);
        due("wipe()", x.wipe(), 60);
        x.set(0, 9);
        String full = "1,2,3,4,5,6,7,8,9;-1,-2,-3,-4,-5,-6,-7,-8,-9;1,2,3,4,5,-6,-7";
        due("60", Due.puts(x, full), 60);
        due("read()", x.read(), 3);
        EdgesOfTermsTest.dueSigns(x, 2, 1, 2, 3, 4, 5, 16, 17);
        due("count(10)", x.count(10), 0);
    }

    private static void manyClauses() {
        dueWhole("1", 1);
        dueWhole("1;2", 2);
        dueWhole("9;9", 2);
        dueWhole("-9;-1", 2);
        dueWhole("1;".repeat(19) + "1", 20);
        Scene.FRESH.withPad(Scene.SIXTY_CHARACTERS).staysBehind("fault()", ClauseWatch::fault);
        due("thirty", Scene.FRESH.withPad(Scene.SIXTY_CHARACTERS).make().fault(), NONE);
    }

    private static void noClauseBetween() {
        dueFault(";", 0);
        dueFault(";1", 0);
        dueFault("1;;1", 2);
        dueFault("1;", 2);
        dueFault("1:1", 1);
        dueFault("1<1", 1);
    }

    private static void manySigns() {
        dueWhole("5", 1);
        dueWhole("5,6", 1);
        dueWhole("1,2,3,4,5,6,7,8,9", 1);
        dueWhole("-1,-2,-3,-4,-5,-6,-7,-8,-9", 1);
    }

    private static void noSignBetween() {
        dueFault(",", 0);
        dueFault(",1", 0);
        dueFault("1,,2", 2);
        dueFault("1,;2", 2);
        dueFault("1;,2", 2);
        dueFault("1,", 2);
        dueFault("12", 1);
        dueFault("1-2", 1);
        dueFault("1+2", 1);
        dueFault("1.2", 1);
    }

    private static void digits() {
        for (int digit = 1; digit <= 9; digit++) {
            ClauseWatch x = new ClauseWatch();
            x.set(0, 9);
            x.put('0' + digit);
            due("read() of " + digit, x.read(), 1);
            EdgesOfTermsTest.dueSigns(x, 0, digit);
        }
        dueFault("0", 0);
        dueFault(":", 0);
        dueFault("/", 0);
        dueFault("1,0", 2);
        dueFault("1,:", 2);
    }

    private static void minusAndDigits() {
        for (int digit = 1; digit <= 9; digit++) {
            ClauseWatch x = new ClauseWatch();
            x.set(0, 9);
            x.put('-' << 8 | '0' + digit);
            due("read() of -" + digit, x.read(), 1);
            EdgesOfTermsTest.dueSigns(x, 0, 10 + digit);
        }
        dueFault("-", 1);
        dueFault("--1", 1);
        dueFault("-0", 1);
        dueFault("-:", 1);
        dueFault("-,", 1);
        dueFault("-;", 1);
        dueFault("1,--2", 3);
        dueFault("+1", 0);
        dueFault("1-", 1);
    }

    /** Each code that put takes: alone, behind "-", behind a digit, and behind "1,". */
    private static void everyCode() {
        for (char code = 33; code <= 126; code++) {
            boolean isDigit = code >= '1' && code <= '9';
            dueFault("" + code, isDigit ? NONE : code == '-' ? 1 : 0);
            dueFault("-" + code, isDigit ? NONE : 1);
            dueFault("1" + code, code == ',' || code == ';' ? 2 : 1);
            dueFault("1," + code, isDigit && code > '1' ? NONE : code == '-' ? 3 : 2);
        }
    }

    private static void ascending() {
        for (int first = 1; first <= 9; first++) {
            for (int second = 1; second <= 9; second++) {
                int atSecond = first == 9 ? 1 : 2;
                dueFault(first + "," + second, second > first ? NONE : atSecond);
                dueFault("-" + first + "," + second, second > first ? NONE : atSecond + 1);
                int behindMinus = first == 9 ? 1 : 3;
                dueFault(first + ",-" + second, second > first ? NONE : behindMinus);
            }
        }
        dueFault("1,3,2", 4);
        dueFault("1,3,3", 4);
        dueFault("1,2,9", NONE);
    }

    private static void anewInEachClause() {
        dueWhole("9;1", 2);
        dueWhole("5,6;5,6;1", 3);
        dueFault("5,6;5,5", 6);
        dueFault("9;9,", 3);
    }

    private static void firstOfMany() {
        dueFault("x1,,;0", 0);
        dueFault("1,x,,;0", 2);
        dueFault("1,2,,;0", 4);
        dueFault("1,2;;0", 4);
        dueFault("1,2;0;", 4);
        dueFault("1,2;3,3,,x", 6);
        dueFault("1,2;-x", 5);
    }

    private static void firstAndLastPlace() {
        for (int place = 0; place < MOST; place++) {
            String begun = "1;".repeat(MOST / 2).substring(0, place);
            String text = begun + "!" + "1".repeat(MOST - 1 - place);
            dueFault(text, place);
        }
    }

    private static void digitThatDoesNotAscend() {
        dueFault("2,2", 2);
        dueFault("2,1", 2);
        dueFault("2,-2", 3);
        dueFault("-2,-1", 4);
        dueFault("8,9,", 3);
        dueFault("2,3", NONE);
    }

    private static void commaBehindNine() {
        dueFault("9,", 1);
        dueFault("-9,", 2);
        dueFault("9,9", 1);
        dueFault("8,9,", 3);
        dueFault("1;9,", 3);
        dueFault("9;8,", 4);
        dueFault("8,", 2);
        dueFault("9;", 2);
    }

    /** Every text of up to four of these characters, against the words of the document taken as they are. */
    private static void allShortTexts() {
        String characters = "0189,;-:!";
        Model model = new Model();
        ClauseWatch x = new ClauseWatch();
        int calls = 0;
        for (int many = 1; many <= 4; many++) {
            for (int choice = 0; choice < Math.pow(characters.length(), many); choice++) {
                StringBuilder text = new StringBuilder();
                for (int left = choice, i = 0; i < many; i++, left /= characters.length()) {
                    text.append(characters.charAt(left % characters.length()));
                }
                if (calls + 3 > 512) {
                    x = new ClauseWatch();
                    calls = 0;
                }
                calls += 3;
                x.wipe();
                Due.puts(x, text.toString());
                model.pad = text.toString();
                due("fault() of " + text, x.fault(), model.fault());
            }
        }
    }

    private static void thingsDoNotMatter() {
        for (int things = 1; things <= 9; things++) {
            ClauseWatch x = new ClauseWatch();
            x.set(0, things);
            Due.puts(x, "1,8,-9;9");
            due("fault(), " + things + " things", x.fault(), NONE);
            due("read(), " + things + " things", x.read(), things == 9 ? 2 : BAD_VALUE);
            x.wipe();
            Due.puts(x, "9,");
            due("fault(), " + things + " things", x.fault(), 1);
        }
    }

    private static void empty() {
        Scene.FRESH.refuses("read()", ClauseWatch::read, BAD_TEXT);
        due("fault()", new ClauseWatch().fault(), 0);
        ClauseWatch x = Scene.MIDDLE.make();
        x.wipe();
        due("fault() behind wipe", x.fault(), 0);
    }

    private static void endsTooEarly() {
        for (String text : new String[] {"-", "1;", "1;-", "1,", "1,-", "8,", "-8,-", "9;", "9;-", "1,2;3,"}) {
            dueFault(text, text.length());
        }
    }

    private static void fullAndTooEarly() {
        dueFault("1;".repeat(30), 60);
        dueFault("1;".repeat(28) + "1,2,", 60);
        dueFault("1;".repeat(29) + "1", NONE);
        String ends = "1;".repeat(29) + "--";
        dueFault(ends, 59);
        dueFault("1;".repeat(28) + "12;-", 57);
        dueFault("-1;".repeat(19) + "-1" + ";", 60);
    }

    private static void errorCodes() {
        due("NO_SUCH", ClauseWatch.NO_SUCH, -1);
        due("BAD_VALUE", ClauseWatch.BAD_VALUE, -2);
        due("BAD_TEXT", ClauseWatch.BAD_TEXT, -3);
        due("TOO_MANY", ClauseWatch.TOO_MANY, -4);
        due("NOT_POSSIBLE", ClauseWatch.NOT_POSSIBLE, -5);
        due("NONE", ClauseWatch.NONE, -6);
    }

    private static void howItStands() {
        due("OPEN", ClauseWatch.OPEN, 0);
        due("FITS", ClauseWatch.FITS, 1);
        due("NEVER", ClauseWatch.NEVER, 2);
    }

    private static Scene[] scenes() {
        return new Scene[] {Scene.FRESH, Scene.MIDDLE, Scene.FULL, Scene.TWENTY, Scene.FITS, Scene.NEVER};
    }

    private static void whatThereIsStays() {
        for (Scene scene : scenes()) {
            scene.staysBehind("of(1, 0) and of(4, 2)", x -> x.of(1, 0) + x.of(4, 2));
            scene.staysBehind("trail(0) and trail(4)", x -> x.trail(0) + x.trail(4));
            scene.staysBehind("clause(0, 1), clause(3, 10)", x -> x.clause(0, 1) + x.clause(3, 10));
            scene.staysBehind("count(0) to count(11)", x -> {
                int sum = 0;
                for (int what = 0; what <= 11; what++) {
                    sum += x.count(what);
                }
                return sum;
            });
        }
    }

    private static void answersLeave() {
        for (Scene scene : scenes()) {
            scene.staysBehind("answers()", ClauseWatch::answers);
            scene.staysBehind("inAnswers(1, 0)", x -> x.inAnswers(1, 0));
            scene.staysBehind("inAnswers(1, 1)", x -> x.inAnswers(1, 1));
            scene.staysBehind("follows(0)", x -> x.follows(0));
            scene.staysBehind("follows(3)", x -> x.follows(3));
            scene.staysBehind("needless()", ClauseWatch::needless);
            scene.staysBehind("searched(0, 0)", x -> x.searched(0, 0));
            scene.staysBehind("searched(1, 2)", x -> x.searched(1, 2));
            scene.staysBehind("ifTold(1)", x -> x.ifTold(1));
            scene.staysBehind("ifTold(14)", x -> x.ifTold(14));
        }
    }

    // ---- Promise 17

    private static void behindTheOthers() {
        ClauseWatch x = new ClauseWatch();
        due("put('1')", x.put('1'), 1);
        due("put(',')", x.put(','), 2);
        due("put of -2", x.put('-' << 8 | '2'), 4);
        due("read()", x.read(), 1);
        EdgesOfTermsTest.dueSigns(x, 0, 1, 12);
    }

    private static void orderOfCharacters() {
        ClauseWatch x = new ClauseWatch();
        due("put of 1,-2;-3 and one more", x.put(0x312C2D32_3B2D333BL), 8);
        due("put('4')", x.put('4'), 9);
        due("read()", x.read(), 3);
        EdgesOfTermsTest.dueSigns(x, 0, 1, 12);
        EdgesOfTermsTest.dueSigns(x, 1, 13);
        EdgesOfTermsTest.dueSigns(x, 2, 4);
        // The one character that cannot stand there is found at its place from the first one on.
        for (int many = 1; many <= 8; many++) {
            for (int place = 0; place < many; place++) {
                long number = 0;
                for (int i = 0; i < many; i++) {
                    number = number << 8 | (i == place ? '!' : i % 2 == 0 ? '1' : ';');
                }
                ClauseWatch y = new ClauseWatch();
                due("put of " + many, y.put(number), many);
                due("fault()", y.fault(), place);
            }
        }
    }

    private static void endOfCharacters() {
        long[] taken = {0x31, 0x3131, 0x313131, 0x31313131L, 0x31_31313131L, 0x3131_31313131L, 0x313131_31313131L};
        for (int i = 0; i < taken.length; i++) {
            due("put of " + (i + 1), new ClauseWatch().put(taken[i]), i + 1);
        }
        long[] refused = {0x310031, 0x3100, 0x31000031, 0x3100000000000031L, 0x0031313131313100L,
            0x3100313131313131L, 0x3131313131310031L};
        for (long number : refused) {
            Scene.MIDDLE.refuses("put(" + number + ")", x -> x.put(number), BAD_VALUE);
        }
    }

    private static void oneToEight() {
        Scene.FRESH.refuses("put(0), none", x -> x.put(0), BAD_VALUE);
        Scene.MIDDLE.refuses("put(0), none", x -> x.put(0), BAD_VALUE);
        due("one", new ClauseWatch().put('1'), 1);
        due("eight", new ClauseWatch().put(0x312C322C332C342CL), 8);
        due("eight of the greatest code", new ClauseWatch().put(0x7E7E7E7E7E7E7E7EL), 8);
        due("eight of the least code", new ClauseWatch().put(0x2121212121212121L), 8);
    }

    private static void lengthThen() {
        ClauseWatch x = new ClauseWatch();
        for (int length = 1; length <= MOST; length++) {
            due("put", x.put('1'), length);
            due("count(10)", x.count(10), length);
        }
        due("put", x.put('1'), TOO_MANY);
        due("count(10)", x.count(10), MOST);
    }

    private static void noCharacter() {
        Scene.FRESH.refuses("put(0)", x -> x.put(0), BAD_VALUE);
        Scene.FRESH.refuses("put(0x100)", x -> x.put(0x100), BAD_VALUE);
        Scene.FRESH.refuses("put('1' << 8)", x -> x.put('1' << 8), BAD_VALUE);
        Scene.FRESH.refuses("put('1' << 56)", x -> x.put((long) '1' << 56), BAD_VALUE);
        Scene.FRESH.refuses("put(MIN)", x -> x.put(Long.MIN_VALUE), BAD_VALUE);
    }

    private static void everyCodeAtEveryPlace() {
        for (int many = 1; many <= 8; many++) {
            for (int place = 0; place < many; place++) {
                for (int code = 0; code <= 255; code++) {
                    long number = 0;
                    for (int i = 0; i < many; i++) {
                        number |= (i == place ? (long) code : '1') << 8 * i;
                    }
                    boolean endsAhead = code == 0 && place == many - 1 && many > 1;
                    int want = endsAhead ? many - 1 : code >= 33 && code <= 126 ? many : BAD_VALUE;
                    ClauseWatch x = new ClauseWatch();
                    due("put(" + number + ")", x.put(number), want);
                    due("count(10)", x.count(10), Math.max(want, 0));
                }
            }
        }
    }

    private static void everyBitAbove() {
        for (int characters = 0; characters <= 6; characters++) {
            long number = 0;
            for (int i = 0; i < characters; i++) {
                number = number << 8 | '1';
            }
            for (int bit = 8 * (characters + 1); bit < 64; bit++) {
                ClauseWatch x = new ClauseWatch();
                long withBit = number | 1L << bit;
                due("put(" + withBit + ")", x.put(withBit), BAD_VALUE);
                due("count(10)", x.count(10), 0);
            }
        }
    }

    private static void everyLength() {
        for (int before = 0; before <= MOST; before++) {
            for (int many = 1; many <= 8; many++) {
                ClauseWatch x = new ClauseWatch();
                Due.puts(x, "1".repeat(before));
                int want = before + many <= MOST ? before + many : TOO_MANY;
                due(before + ", then " + many, Due.puts(x, "1".repeat(many)), want);
                due("count(10)", x.count(10), want == TOO_MANY ? before : want);
            }
        }
    }

    private static void longerThan60() {
        Scene of59 = Scene.MIDDLE.withPad("1;".repeat(29) + "1");
        of59.refuses("put of 2", x -> x.put(0x3231), TOO_MANY);
        Scene of53 = Scene.MIDDLE.withPad("1;".repeat(26) + "1");
        of53.refuses("put of 8", x -> x.put(0x3B313B313B313B31L), TOO_MANY);
        due("put of 7", of53.make().put(0x3B313B313B3B31L), 60);
        Scene.MIDDLE.withPad(Scene.SIXTY_CHARACTERS).refuses("put of 1", x -> x.put('1'), TOO_MANY);
    }

    // ---- Promises 18 and 19

    private static void wipesEmpty() {
        due("wipe()", new ClauseWatch().wipe(), 0);
        Scene.FRESH.staysBehind("wipe()", ClauseWatch::wipe);
        ClauseWatch x = Scene.MIDDLE.make();
        due("wipe()", x.wipe(), 3);
        due("wipe()", x.wipe(), 0);
        due("count(10)", x.count(10), 0);
    }

    private static void wipesOne() {
        ClauseWatch x = new ClauseWatch();
        x.put('1');
        due("wipe()", x.wipe(), 1);
        due("count(10)", x.count(10), 0);
        due("fault()", x.fault(), 0);
        due("read()", x.read(), BAD_TEXT);
    }

    private static void wipesFull() {
        ClauseWatch x = Scene.FULL.make();
        due("wipe()", x.wipe(), 60);
        due("count(10)", x.count(10), 0);
        due("fault()", x.fault(), 0);
        due("put('2')", x.put('2'), 1);
        due("fault()", x.fault(), NONE);
        due("drop(0)", x.drop(0), 19);
        due("read()", x.read(), 20);
        EdgesOfTermsTest.dueSigns(x, 19, 2);
        due("clause(20, 0)", x.clause(20, 0), NO_SUCH);
    }

    private static void wipesThePadAlone() {
        for (Scene scene : scenes()) {
            ClauseWatch x = scene.make();
            int changes = x.count(11);
            x.wipe();
            due("count(11)", x.count(11), changes);
            scene.sameSearchAs("behind wipe()", () -> {
                ClauseWatch y = scene.make();
                y.wipe();
                return y;
            });
        }
    }

    private static void leastAndMostFault() {
        dueFault("", 0);
        dueFault("!", 0);
        dueFault("1;".repeat(29) + "1!", 59);
        dueFault("1;".repeat(30), 60);
    }

    private static void noFault() {
        dueFault("1", NONE);
        dueFault("1;".repeat(29) + "-9", NONE);
        dueFault("1,2,3,4,5,6,7,8,9", NONE);
    }

    private static void faultLeaves() {
        for (Scene scene : scenes()) {
            scene.staysBehind("fault()", ClauseWatch::fault);
        }
    }
}
