/**
 * A search for values that fit all clauses, which learns new clauses out of conflicts.
 *
 * <p>Everywhere inside, a sign is the number by which it is told (n, or 10 + n), and a set of signs
 * is an int in which the bit of a sign's number tells that it belongs to the set. A clause is such a
 * set, and so are the values that things have: a clause is true if the two sets meet.
 */
public final class ClauseWatch {
    public static final int NO_SUCH = -1, BAD_VALUE = -2, BAD_TEXT = -3, TOO_MANY = -4, NOT_POSSIBLE = -5, NONE = -6;
    public static final int OPEN = 0, FITS = 1, NEVER = 2;

    private static final int MOST_THINGS = 9;
    private static final int MOST_TOLD = 20;
    private static final int MOST_LEARNED = 40;
    private static final int MOST_RESTART = 20;
    private static final int MOST_STEPS = 500;
    private static final int MOST_TRIED_STEPS = 2000;
    private static final int MOST_UNDONE = 6;
    private static final int SLOTS = 2;

    /** What lies between the number of the sign "n is 1" and that of "n is 0". */
    private static final int TOLD_ZERO = 10;
    private static final int ALL_SIGNS = 0x3FE | 0x3FE << TOLD_ZERO;

    private final Search now = new Search();
    /** The one place where a search is only tried, so that no call has to make a new one. */
    private final Search trial = new Search();
    /** The states before the latest changes, the oldest one first; made when first needed, used again. */
    private final Search[] history = new Search[MOST_UNDONE];
    private int undoable = 0;
    /** What was saved; null where nothing was. */
    private final Search[] slots = new Search[SLOTS];
    private final Pad pad = new Pad();

    public ClauseWatch() {
    }

    // ---- changes

    public int set(int setting, int value) {
        switch (setting) {
            case 0:
                return setThings(value);
            case 1:
                return setRestart(value);
            case 2:
                return setFirst(value);
            default:
                return BAD_VALUE;
        }
    }

    private int setThings(int value) {
        if (value < 1 || value > MOST_THINGS) {
            return BAD_VALUE;
        }
        if (now.toldNeeds() > value) {
            return NOT_POSSIBLE;
        }
        record();
        int previous = now.things;
        now.things = value;
        now.beginAnew();
        return previous;
    }

    private int setRestart(int value) {
        if (value < 1 || value > MOST_RESTART) {
            return BAD_VALUE;
        }
        record();
        int previous = now.restart;
        now.restart = value;
        return previous;
    }

    private int setFirst(int value) {
        if (value != 0 && value != 1) {
            return BAD_VALUE;
        }
        record();
        int previous = now.first;
        now.first = value;
        return previous;
    }

    public int read() {
        if (pad.firstFault() != NONE) {
            return BAD_TEXT;
        }
        if (pad.greatestThing() > now.things) {
            return BAD_VALUE;
        }
        if (now.told + pad.howManyClauses() > MOST_TOLD) {
            return TOO_MANY;
        }
        record();
        now.beginAnew();
        pad.tellClausesTo(now);
        pad.empty();
        return now.told;
    }

    public int drop(int clause) {
        if (clause < 0 || clause >= now.told) {
            return NO_SUCH;
        }
        record();
        now.beginAnew();
        now.removeClause(clause);
        now.told--;
        return now.told;
    }

    public int step(int steps) {
        if (steps < 1 || steps > MOST_STEPS) {
            return BAD_VALUE;
        }
        record();
        now.doSteps(steps);
        return now.stands;
    }

    public int back(int level) {
        if (level < 0 || level > now.presentLevel()) {
            return BAD_VALUE;
        }
        if (now.stands == NEVER) {
            return NOT_POSSIBLE;
        }
        record();
        now.goBackTo(level);
        now.stands = OPEN;
        return now.given;
    }

    // ---- what there is

    public int of(int thing, int what) {
        if (isNoThing(thing)) {
            return NO_SUCH;
        }
        if (what < 0 || what > 3) {
            return BAD_VALUE;
        }
        int place = now.placeOf(thing);
        if (place < 0) {
            return NONE;
        }
        switch (what) {
            case 0:
                return now.signAt(place) == thing ? 1 : 0;
            case 1:
                return now.levelAt(place);
            case 2:
                return now.reasonAt(place);
            default:
                return place;
        }
    }

    public int trail(int place) {
        if (place < 0 || place >= now.given) {
            return NO_SUCH;
        }
        return thingOf(now.signAt(place));
    }

    public int clause(int clause, int what) {
        if (isNoClause(clause)) {
            return NO_SUCH;
        }
        if (what < 0 || what > 12) {
            return BAD_VALUE;
        }
        int signs = now.clauseAt(clause);
        switch (what) {
            case 0:
                return Integer.bitCount(signs);
            case 10:
                return now.isTrue(signs) ? 1 : 0;
            case 11:
                return !now.isTrue(signs) && now.openSigns(signs) == 0 ? 1 : 0;
            case 12:
                return Integer.bitCount(now.openSigns(signs));
            default:
                return signInOrder(signs, what);
        }
    }

    public int count(int what) {
        switch (what) {
            case 0:
                return now.told;
            case 1:
                return now.learned;
            case 2:
                return now.stands;
            case 3:
                return now.presentLevel();
            case 4:
                return now.given;
            case 5:
                return now.conflicts;
            case 6:
                return now.steps;
            case 7:
                return now.things;
            case 8:
                return now.restart;
            case 9:
                return now.first;
            case 10:
                return pad.length;
            case 11:
                return undoable;
            default:
                return BAD_VALUE;
        }
    }

    // ---- answers; nothing changes

    public int answers() {
        int found = 0;
        for (int choice = 0; choice < now.choices(); choice++) {
            if (now.toldBrokenBy(now.chosenSigns(choice)) == 0) {
                found++;
            }
        }
        return found;
    }

    public int inAnswers(int thing, int what) {
        if (isNoThing(thing)) {
            return NO_SUCH;
        }
        if (what != 0 && what != 1) {
            return BAD_VALUE;
        }
        int ones = answersWith(thing);
        if (what == 0) {
            return ones;
        }
        return ones == 0 || ones == answers() ? 1 : 0;
    }

    private int answersWith(int sign) {
        int found = 0;
        for (int choice = 0; choice < now.choices(); choice++) {
            int values = now.chosenSigns(choice);
            if (has(values, sign) && now.toldBrokenBy(values) == 0) {
                found++;
            }
        }
        return found;
    }

    public int follows(int clause) {
        if (isNoClause(clause)) {
            return NO_SUCH;
        }
        int signs = now.clauseAt(clause);
        for (int choice = 0; choice < now.choices(); choice++) {
            int values = now.chosenSigns(choice);
            if ((signs & values) == 0 && now.toldBrokenBy(values) == 0) {
                return 0;
            }
        }
        return 1;
    }

    public int needless() {
        int needed = 0;
        for (int choice = 0; choice < now.choices(); choice++) {
            int broken = now.toldBrokenBy(now.chosenSigns(choice));
            // Values that break a single clause are an answer that comes when it goes.
            if (Integer.bitCount(broken) == 1) {
                needed |= broken;
            }
        }
        int all = (1 << now.told) - 1;
        return all & ~needed;
    }

    public int searched(int first, int what) {
        if (first != 0 && first != 1 || what < 0 || what > 2) {
            return BAD_VALUE;
        }
        trial.copyFrom(now);
        trial.beginAnew();
        trial.first = first;
        trial.doSteps(MOST_TRIED_STEPS);
        if (trial.stands == OPEN) {
            return NONE;
        }
        switch (what) {
            case 0:
                return trial.steps;
            case 1:
                return trial.conflicts;
            default:
                return trial.stands;
        }
    }

    public int ifTold(int sign) {
        if (isNoThing(thingOf(sign))) {
            return BAD_VALUE;
        }
        if (now.told >= MOST_TOLD) {
            return TOO_MANY;
        }
        trial.copyFrom(now);
        trial.beginAnew();
        trial.tell(setOf(sign));
        trial.doSteps(MOST_TRIED_STEPS);
        return trial.stands == OPEN ? NONE : trial.stands;
    }

    // ---- texts

    public int put(long characters) {
        int many = Pad.charactersIn(characters);
        if (many == 0) {
            return BAD_VALUE;
        }
        if (pad.length + many > Pad.MOST_CHARACTERS) {
            return TOO_MANY;
        }
        pad.append(characters, many);
        return pad.length;
    }

    public int wipe() {
        int previous = pad.length;
        pad.empty();
        return previous;
    }

    public int fault() {
        return pad.firstFault();
    }

    // ---- undo, saving

    public int undo() {
        if (undoable <= 0 || undoable > MOST_UNDONE) {
            return NOT_POSSIBLE;
        }
        Search before = history[undoable - 1];
        if (before == null) {
            return NOT_POSSIBLE;
        }
        now.copyFrom(before);
        undoable--;
        return undoable;
    }

    public int save(int slot) {
        if (slot < 0 || slot >= SLOTS) {
            return BAD_VALUE;
        }
        if (slots[slot] == null) {
            slots[slot] = new Search();
        }
        slots[slot].copyFrom(now);
        return now.told;
    }

    public int restore(int slot) {
        if (slot < 0 || slot >= SLOTS) {
            return BAD_VALUE;
        }
        Search saved = slots[slot];
        if (saved == null) {
            return NOT_POSSIBLE;
        }
        record();
        now.copyFrom(saved);
        return now.told;
    }

    /** Has to stand ahead of what a change changes, and behind all of its errors. */
    private void record() {
        if (undoable >= MOST_UNDONE) {
            moveOldestToEnd();
            undoable = MOST_UNDONE - 1;
        }
        if (undoable >= 0 && undoable < MOST_UNDONE) {
            if (history[undoable] == null) {
                history[undoable] = new Search();
            }
            history[undoable].copyFrom(now);
            undoable++;
        }
    }

    private void moveOldestToEnd() {
        Search oldest = history[0];
        for (int i = 1; i < MOST_UNDONE; i++) {
            history[i - 1] = history[i];
        }
        history[MOST_UNDONE - 1] = oldest;
    }

    // ---- signs and sets of them

    private boolean isNoThing(int thing) {
        return thing < 1 || thing > now.things;
    }

    private boolean isNoClause(int number) {
        return number < 0 || number >= now.told + now.learned;
    }

    private static int thingOf(int sign) {
        return sign >= TOLD_ZERO ? sign - TOLD_ZERO : sign;
    }

    private static int opposite(int sign) {
        return sign >= TOLD_ZERO ? sign - TOLD_ZERO : sign + TOLD_ZERO;
    }

    private static int setOf(int sign) {
        return 1 << sign;
    }

    private static boolean has(int signs, int sign) {
        return (signs & setOf(sign)) != 0;
    }

    /** The signs that say the opposite of those in a set. */
    private static int opposites(int signs) {
        return (signs << TOLD_ZERO | signs >> TOLD_ZERO) & ALL_SIGNS;
    }

    /** The sign at a place, counted from 1, in the ascending order of the things; NONE behind the last. */
    private static int signInOrder(int signs, int place) {
        int passed = 0;
        for (int thing = 1; thing <= MOST_THINGS; thing++) {
            if (has(signs | opposites(signs), thing)) {
                passed++;
                if (passed == place) {
                    return has(signs, thing) ? thing : opposite(thing);
                }
            }
        }
        return NONE;
    }

    /** All that undo brings back, and that a slot keeps. */
    private static final class Search {
        private int things = 4;
        private int restart = 10;
        private int first = 0;

        private int told = 0;
        private int learned = 0;
        /** The told clauses, and the learned ones behind them. */
        private final int[] clauses = new int[MOST_TOLD + MOST_LEARNED];

        /** How many values are given; the three rows tell, place by place, what the trail holds. */
        private int given = 0;
        private final int[] signs = new int[MOST_THINGS];
        private final int[] levels = new int[MOST_THINGS];
        private final int[] reasons = new int[MOST_THINGS];
        /** The signs of the trail as a set. */
        private int values = 0;

        private int stands = OPEN;
        private int conflicts = 0;
        private int steps = 0;

        private void copyFrom(Search other) {
            things = other.things;
            restart = other.restart;
            first = other.first;
            told = other.told;
            learned = other.learned;
            given = other.given;
            values = other.values;
            stands = other.stands;
            conflicts = other.conflicts;
            steps = other.steps;
            System.arraycopy(other.clauses, 0, clauses, 0, MOST_TOLD + MOST_LEARNED);
            System.arraycopy(other.signs, 0, signs, 0, MOST_THINGS);
            System.arraycopy(other.levels, 0, levels, 0, MOST_THINGS);
            System.arraycopy(other.reasons, 0, reasons, 0, MOST_THINGS);
        }

        private void beginAnew() {
            learned = 0;
            given = 0;
            values = 0;
            stands = OPEN;
            conflicts = 0;
            steps = 0;
        }

        // ---- clauses

        private int clauseAt(int number) {
            return number >= 0 && number < clauses.length ? clauses[number] : 0;
        }

        /** Learned clauses would be overwritten: the search has to begin anew ahead of this. */
        private void tell(int clause) {
            if (told >= 0 && told < MOST_TOLD) {
                clauses[told] = clause;
                told++;
            }
        }

        /** Closes the gap alone; the one who calls counts the told or the learned ones. */
        private void removeClause(int number) {
            for (int i = number; i >= 0 && i + 1 < clauses.length; i++) {
                clauses[i] = clauses[i + 1];
            }
        }

        /** The greatest thing of the told clauses, 0 without one. */
        private int toldNeeds() {
            int all = 0;
            for (int number = 0; number < told; number++) {
                all |= clauseAt(number);
            }
            int greatest = 0;
            for (int thing = 1; thing <= MOST_THINGS; thing++) {
                if (has(all | opposites(all), thing)) {
                    greatest = thing;
                }
            }
            return greatest;
        }

        private boolean isTrue(int clause) {
            return (clause & values) != 0;
        }

        private int openSigns(int clause) {
            return clause & ~(values | opposites(values));
        }

        /** The number of the first clause that is not true and has so many open signs; NONE without one. */
        private int firstUntrue(int open) {
            for (int number = 0; number < told + learned; number++) {
                int clause = clauseAt(number);
                if (!isTrue(clause) && Integer.bitCount(openSigns(clause)) == open) {
                    return number;
                }
            }
            return NONE;
        }

        // ---- all the ways to choose values of all things

        private int choices() {
            return 1 << things;
        }

        private int chosenSigns(int choice) {
            int ones = choice << 1;
            int zeros = (choices() - 1 - choice) << 1;
            return ones | zeros << TOLD_ZERO;
        }

        /** The told clauses that are not true with these values, as a bit mask. */
        private int toldBrokenBy(int chosen) {
            int broken = 0;
            for (int number = 0; number < told; number++) {
                if ((clauseAt(number) & chosen) == 0) {
                    broken |= 1 << number;
                }
            }
            return broken;
        }

        // ---- the trail

        private int signAt(int place) {
            return place >= 0 && place < MOST_THINGS ? signs[place] : 0;
        }

        private int levelAt(int place) {
            return place >= 0 && place < MOST_THINGS ? levels[place] : 0;
        }

        private int reasonAt(int place) {
            return place >= 0 && place < MOST_THINGS ? reasons[place] : NONE;
        }

        private int presentLevel() {
            // Levels never fall along the trail, so the last value has the present one.
            return given > 0 ? levelAt(given - 1) : 0;
        }

        private int placeOf(int thing) {
            for (int place = 0; place < given; place++) {
                if (thingOf(signAt(place)) == thing) {
                    return place;
                }
            }
            return NONE;
        }

        private void give(int sign, int level, int reason) {
            if (given >= 0 && given < MOST_THINGS) {
                signs[given] = sign;
                levels[given] = level;
                reasons[given] = reason;
                values |= setOf(sign);
                given++;
            }
        }

        private void goBackTo(int level) {
            while (given > 0 && levelAt(given - 1) > level) {
                given--;
                values &= ~setOf(signAt(given));
            }
        }

        private boolean isReason(int number) {
            for (int place = 0; place < given; place++) {
                if (reasonAt(place) == number) {
                    return true;
                }
            }
            return false;
        }

        private int lowestOpenThing() {
            for (int thing = 1; thing <= things; thing++) {
                if (openSigns(setOf(thing)) != 0) {
                    return thing;
                }
            }
            return NONE;
        }

        // ---- steps

        private void doSteps(int most) {
            for (int i = 0; i < most && stands == OPEN; i++) {
                doOneStep();
                steps++;
            }
        }

        private void doOneStep() {
            int conflict = firstUntrue(0);
            if (conflict >= 0) {
                meetConflict(conflict);
                return;
            }
            int telling = firstUntrue(1);
            if (telling >= 0) {
                give(signInOrder(openSigns(clauseAt(telling)), 1), presentLevel(), telling);
                return;
            }
            int thing = lowestOpenThing();
            if (thing > 0) {
                give(first == 1 ? thing : opposite(thing), presentLevel() + 1, NONE);
                return;
            }
            stands = FITS;
        }

        private void meetConflict(int conflict) {
            if (presentLevel() == 0) {
                stands = NEVER;
                return;
            }
            int clause = clauseOutOf(clauseAt(conflict));
            goBackTo(levelBelowPresent(clause));
            if (learned >= MOST_LEARNED) {
                forgetEarliestWithoutUse();
            }
            learn(clause);
            conflicts++;
            if (restart > 0 && conflicts % restart == 0) {
                goBackTo(0);
            }
        }

        /** What is learned from a conflict: it keeps a single sign whose thing has the present level. */
        private int clauseOutOf(int conflict) {
            int ofPresentLevel = opposites(signsOfPresentLevel());
            int clause = conflict;
            // A reason's other values were given ahead of its own: one way back meets all that come.
            for (int place = given - 1; place >= 0 && Integer.bitCount(clause & ofPresentLevel) > 1; place--) {
                int sign = signAt(place);
                if (has(clause, opposite(sign))) {
                    clause &= ~setOf(opposite(sign));
                    clause |= clauseAt(reasonAt(place)) & ~setOf(sign);
                }
            }
            return clause;
        }

        private int signsOfPresentLevel() {
            int found = 0;
            for (int place = 0; place < given; place++) {
                if (levelAt(place) == presentLevel()) {
                    found |= setOf(signAt(place));
                }
            }
            return found;
        }

        /** The greatest level below the present one that a thing of the clause has, 0 without one. */
        private int levelBelowPresent(int clause) {
            int greatest = 0;
            for (int place = 0; place < given; place++) {
                if (has(clause, opposite(signAt(place))) && levelAt(place) < presentLevel()) {
                    greatest = Math.max(greatest, levelAt(place));
                }
            }
            return greatest;
        }

        private void learn(int clause) {
            int number = told + learned;
            if (learned < MOST_LEARNED && number >= 0 && number < clauses.length) {
                clauses[number] = clause;
                learned++;
            }
        }

        private void forgetEarliestWithoutUse() {
            for (int number = told; number < told + learned; number++) {
                if (!isReason(number)) {
                    removeClause(number);
                    learned--;
                    lowerReasonsAbove(number);
                    return;
                }
            }
        }

        private void lowerReasonsAbove(int number) {
            for (int place = 0; place < given && place < MOST_THINGS; place++) {
                if (reasons[place] > number) {
                    reasons[place]--;
                }
            }
        }
    }

    /** The text that clauses are read from. */
    private static final class Pad {
        private static final int MOST_CHARACTERS = 60;
        private static final int MOST_AT_ONCE = 8;

        private final char[] characters = new char[MOST_CHARACTERS];
        private int length = 0;

        private void empty() {
            length = 0;
        }

        /** How many characters a number holds; 0 if it does not hold characters alone. */
        private static int charactersIn(long packed) {
            int many = 0;
            while (many < MOST_AT_ONCE && packed >>> 8 * many != 0) {
                int code = codeIn(packed, many);
                // Bits above 8 bits that are 0 are found here too, as a code that is 0.
                if (code < 33 || code > 126) {
                    return 0;
                }
                many++;
            }
            return many;
        }

        /** The code of a character, counted from the last one. */
        private static int codeIn(long packed, int fromLast) {
            return (int) (packed >>> 8 * fromLast & 255);
        }

        private void append(long packed, int many) {
            for (int fromLast = many - 1; fromLast >= 0; fromLast--) {
                if (length >= 0 && length < MOST_CHARACTERS) {
                    characters[length] = (char) codeIn(packed, fromLast);
                    length++;
                }
            }
        }

        private char characterAt(int index) {
            return index >= 0 && index < MOST_CHARACTERS ? characters[index] : ' ';
        }

        private int firstFault() {
            int lastDigit = 0;
            boolean behindDigit = false;
            boolean behindMinus = false;
            for (int i = 0; i < length; i++) {
                char c = characterAt(i);
                if (behindDigit) {
                    if (c != ';' && (c != ',' || lastDigit == MOST_THINGS)) {
                        return i;
                    }
                    lastDigit = c == ';' ? 0 : lastDigit;
                    behindDigit = false;
                } else if (c == '-' && !behindMinus) {
                    behindMinus = true;
                } else {
                    int digit = c - '0';
                    if (digit <= lastDigit || digit > MOST_THINGS) {
                        return i;
                    }
                    lastDigit = digit;
                    behindDigit = true;
                    behindMinus = false;
                }
            }
            return behindDigit ? NONE : length;
        }

        // ---- what follows is asked of a pad without a fault alone

        private static boolean isDigit(char c) {
            return c >= '1' && c <= '9';
        }

        private int greatestThing() {
            int greatest = 0;
            for (int i = 0; i < length; i++) {
                if (isDigit(characterAt(i))) {
                    greatest = Math.max(greatest, characterAt(i) - '0');
                }
            }
            return greatest;
        }

        private int howManyClauses() {
            int many = 1;
            for (int i = 0; i < length; i++) {
                if (characterAt(i) == ';') {
                    many++;
                }
            }
            return many;
        }

        private void tellClausesTo(Search search) {
            int clause = 0;
            boolean toZero = false;
            for (int i = 0; i < length; i++) {
                char c = characterAt(i);
                if (isDigit(c)) {
                    int thing = c - '0';
                    clause |= setOf(toZero ? opposite(thing) : thing);
                } else if (c == ';') {
                    search.tell(clause);
                    clause = 0;
                }
                toZero = c == '-';
            }
            search.tell(clause);
        }
    }
}
