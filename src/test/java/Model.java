import java.util.ArrayDeque;
import java.util.ArrayList;
import java.util.Collections;
import java.util.Comparator;
import java.util.Deque;
import java.util.List;
import java.util.TreeMap;

/**
 * The document once more, written in another way: lists and maps that are copied whole, and
 * nothing shared with the class under test. It serves random runs as the one to compare with.
 */
final class Model {
    static final int NO_SUCH = -1, BAD_VALUE = -2, BAD_TEXT = -3, TOO_MANY = -4, NOT_POSSIBLE = -5, NONE = -6;

    record Value(int thing, int value, int level, int reason) {
        boolean agrees(int sign) {
            return thing == sign % 10 && value == (sign < 10 ? 1 : 0);
        }
    }

    static final class State {
        int things = 4, restart = 10, first = 0, stands = 0, conflicts = 0, steps = 0;
        List<List<Integer>> told = new ArrayList<>();
        List<List<Integer>> learned = new ArrayList<>();
        List<Value> trail = new ArrayList<>();

        State copy() {
            State s = new State();
            s.things = things;
            s.restart = restart;
            s.first = first;
            s.stands = stands;
            s.conflicts = conflicts;
            s.steps = steps;
            s.told = new ArrayList<>(told);
            s.learned = new ArrayList<>(learned);
            s.trail = new ArrayList<>(trail);
            return s;
        }

        void anew() {
            learned.clear();
            trail.clear();
            stands = conflicts = steps = 0;
        }

        int level() {
            int level = 0;
            for (Value v : trail) {
                if (v.reason == NONE) {
                    level = v.level;
                }
            }
            return level;
        }

        List<List<Integer>> all() {
            List<List<Integer>> all = new ArrayList<>(told);
            all.addAll(learned);
            return all;
        }

        Value valueOf(int thing) {
            for (Value v : trail) {
                if (v.thing == thing) {
                    return v;
                }
            }
            return null;
        }

        boolean isTrue(List<Integer> clause) {
            return clause.stream().anyMatch(s -> valueOf(s % 10) != null && valueOf(s % 10).agrees(s));
        }

        int open(List<Integer> clause) {
            return (int) clause.stream().filter(s -> valueOf(s % 10) == null).count();
        }

        void backTo(int level) {
            trail.removeIf(v -> v.level > level);
        }

        void step() {
            steps++;
            List<List<Integer>> all = all();
            for (List<Integer> clause : all) {
                if (!isTrue(clause) && open(clause) == 0) {
                    conflict(clause);
                    return;
                }
            }
            for (int i = 0; i < all.size(); i++) {
                if (!isTrue(all.get(i)) && open(all.get(i)) == 1) {
                    for (int s : all.get(i)) {
                        if (valueOf(s % 10) == null) {
                            trail.add(new Value(s % 10, s < 10 ? 1 : 0, level(), i));
                            return;
                        }
                    }
                }
            }
            for (int thing = 1; thing <= things; thing++) {
                if (valueOf(thing) == null) {
                    trail.add(new Value(thing, first, level() + 1, NONE));
                    return;
                }
            }
            stands = 1;
        }

        void conflict(List<Integer> conflict) {
            int present = level();
            if (present == 0) {
                stands = 2;
                return;
            }
            TreeMap<Integer, Integer> fresh = new TreeMap<>();
            conflict.forEach(s -> fresh.put(s % 10, s));
            while (fresh.keySet().stream().filter(t -> valueOf(t).level == present).count() > 1) {
                int latest = fresh.keySet().stream().filter(t -> valueOf(t).level == present)
                        .max(Comparator.comparingInt(t -> trail.indexOf(valueOf(t)))).get();
                fresh.remove(latest);
                for (int s : all().get(valueOf(latest).reason)) {
                    if (s % 10 != latest) {
                        fresh.put(s % 10, s);
                    }
                }
            }
            int to = 0;
            for (int thing : fresh.keySet()) {
                if (valueOf(thing).level != present) {
                    to = Math.max(to, valueOf(thing).level);
                }
            }
            backTo(to);
            if (learned.size() == 40) {
                forget();
            }
            learned.add(new ArrayList<>(fresh.values()));
            conflicts++;
            if (conflicts % restart == 0) {
                backTo(0);
            }
        }

        void forget() {
            for (int i = 0; i < learned.size(); i++) {
                int number = told.size() + i;
                if (trail.stream().noneMatch(v -> v.reason == number)) {
                    learned.remove(i);
                    trail.replaceAll(v -> v.reason > number
                            ? new Value(v.thing, v.value, v.level, v.reason - 1) : v);
                    return;
                }
            }
        }

        int run(int most) {
            for (int i = 0; i < most && stands == 0; i++) {
                step();
            }
            return stands;
        }

        /** All answers, each as a list of 0 and 1, that of thing 1 first. */
        List<List<Integer>> answers(List<List<Integer>> clauses) {
            List<List<Integer>> rows = new ArrayList<>();
            rows.add(Collections.emptyList());
            for (int thing = 1; thing <= things; thing++) {
                List<List<Integer>> longer = new ArrayList<>();
                for (List<Integer> row : rows) {
                    for (int value = 0; value <= 1; value++) {
                        List<Integer> next = new ArrayList<>(row);
                        next.add(value);
                        longer.add(next);
                    }
                }
                rows = longer;
            }
            rows.removeIf(row -> clauses.stream().anyMatch(c -> !fits(row, c)));
            return rows;
        }

        static boolean fits(List<Integer> row, List<Integer> clause) {
            return clause.stream().anyMatch(s -> row.get(s % 10 - 1) == (s < 10 ? 1 : 0));
        }
    }

    State now = new State();
    String pad = "";
    final Deque<State> history = new ArrayDeque<>();
    final State[] slots = new State[2];

    private void change() {
        history.addLast(now.copy());
        if (history.size() > 6) {
            history.removeFirst();
        }
    }

    int set(int setting, int value) {
        int most = setting == 0 ? 9 : setting == 1 ? 20 : 1;
        int least = setting == 2 ? 0 : 1;
        if (setting < 0 || setting > 2 || value < least || value > most) {
            return BAD_VALUE;
        }
        if (setting == 0 && now.told.stream().anyMatch(c -> c.stream().anyMatch(s -> s % 10 > value))) {
            return NOT_POSSIBLE;
        }
        change();
        int old = count(7 + setting);
        if (setting == 0) {
            now.things = value;
            now.anew();
        } else if (setting == 1) {
            now.restart = value;
        } else {
            now.first = value;
        }
        return old;
    }

    int read() {
        if (fault() != NONE) {
            return BAD_TEXT;
        }
        List<List<Integer>> fresh = new ArrayList<>();
        boolean tooHigh = false;
        for (String text : pad.split(";")) {
            List<Integer> clause = new ArrayList<>();
            for (String sign : text.split(",")) {
                int number = Integer.parseInt(sign);
                clause.add(number < 0 ? 10 - number : number);
                tooHigh |= Math.abs(number) > now.things;
            }
            fresh.add(clause);
        }
        if (tooHigh) {
            return BAD_VALUE;
        }
        if (now.told.size() + fresh.size() > 20) {
            return TOO_MANY;
        }
        change();
        now.told.addAll(fresh);
        now.anew();
        pad = "";
        return now.told.size();
    }

    int drop(int clause) {
        if (clause < 0 || clause >= now.told.size()) {
            return NO_SUCH;
        }
        change();
        now.told.remove(clause);
        now.anew();
        return now.told.size();
    }

    int step(int steps) {
        if (steps < 1 || steps > 500) {
            return BAD_VALUE;
        }
        change();
        return now.run(steps);
    }

    int back(int level) {
        if (level < 0 || level > now.level()) {
            return BAD_VALUE;
        }
        if (now.stands == 2) {
            return NOT_POSSIBLE;
        }
        change();
        now.backTo(level);
        now.stands = 0;
        return now.trail.size();
    }

    int of(int thing, int what) {
        if (thing < 1 || thing > now.things) {
            return NO_SUCH;
        }
        if (what < 0 || what > 3) {
            return BAD_VALUE;
        }
        Value v = now.valueOf(thing);
        return v == null ? NONE : new int[] {v.value, v.level, v.reason, now.trail.indexOf(v)}[what];
    }

    int trail(int place) {
        return place < 0 || place >= now.trail.size() ? NO_SUCH : now.trail.get(place).thing;
    }

    int clause(int clause, int what) {
        if (clause < 0 || clause >= now.all().size()) {
            return NO_SUCH;
        }
        if (what < 0 || what > 12) {
            return BAD_VALUE;
        }
        List<Integer> signs = now.all().get(clause);
        boolean isTrue = now.isTrue(signs);
        return switch (what) {
            case 0 -> signs.size();
            case 10 -> isTrue ? 1 : 0;
            case 11 -> !isTrue && now.open(signs) == 0 ? 1 : 0;
            case 12 -> now.open(signs);
            default -> what > signs.size() ? NONE : signs.get(what - 1);
        };
    }

    int count(int what) {
        if (what < 0 || what > 11) {
            return BAD_VALUE;
        }
        return new int[] {now.told.size(), now.learned.size(), now.stands, now.level(), now.trail.size(),
            now.conflicts, now.steps, now.things, now.restart, now.first, pad.length(), history.size()}[what];
    }

    int answers() {
        return now.answers(now.told).size();
    }

    int inAnswers(int thing, int what) {
        if (thing < 1 || thing > now.things) {
            return NO_SUCH;
        }
        if (what < 0 || what > 1) {
            return BAD_VALUE;
        }
        List<List<Integer>> answers = now.answers(now.told);
        if (what == 0) {
            return (int) answers.stream().filter(row -> row.get(thing - 1) == 1).count();
        }
        return answers.stream().map(row -> row.get(thing - 1)).distinct().count() > 1 ? 0 : 1;
    }

    int follows(int clause) {
        if (clause < 0 || clause >= now.all().size()) {
            return NO_SUCH;
        }
        List<Integer> signs = now.all().get(clause);
        return now.answers(now.told).stream().allMatch(row -> State.fits(row, signs)) ? 1 : 0;
    }

    int needless() {
        int set = 0;
        int before = answers();
        for (int i = 0; i < now.told.size(); i++) {
            List<List<Integer>> rest = new ArrayList<>(now.told);
            rest.remove(i);
            if (now.answers(rest).size() == before) {
                set += 1 << i;
            }
        }
        return set;
    }

    int searched(int first, int what) {
        if (first < 0 || first > 1 || what < 0 || what > 2) {
            return BAD_VALUE;
        }
        State s = now.copy();
        s.anew();
        s.first = first;
        return s.run(2000) == 0 ? NONE : new int[] {s.steps, s.conflicts, s.stands}[what];
    }

    int ifTold(int sign) {
        boolean isSign = sign >= 1 && sign <= 9 || sign >= 11 && sign <= 19;
        if (!isSign || sign % 10 > now.things) {
            return BAD_VALUE;
        }
        if (now.told.size() == 20) {
            return TOO_MANY;
        }
        State s = now.copy();
        s.anew();
        s.told.add(List.of(sign));
        return s.run(2000) == 0 ? NONE : s.stands;
    }

    int put(long characters) {
        StringBuilder text = new StringBuilder();
        boolean ended = false;
        for (int shift = 0; shift < 64; shift += 8) {
            int code = (int) (characters >>> shift & 255);
            if (code == 0) {
                ended = true;
            } else if (ended || code < 33 || code > 126) {
                return BAD_VALUE;
            } else {
                text.insert(0, (char) code);
            }
        }
        if (text.length() == 0) {
            return BAD_VALUE;
        }
        if (pad.length() + text.length() > 60) {
            return TOO_MANY;
        }
        pad += text;
        return pad.length();
    }

    int wipe() {
        int length = pad.length();
        pad = "";
        return length;
    }

    /** The first length at which no text that fits goes on from the pad's beginning. */
    int fault() {
        for (int length = 1; length <= pad.length(); length++) {
            if (!canGoOn(pad.substring(0, length))) {
                return length - 1;
            }
        }
        return !pad.isEmpty() && isWhole(pad) ? NONE : pad.length();
    }

    private static boolean isWhole(String text) {
        for (String clause : text.split(";", -1)) {
            int last = 0;
            for (String sign : clause.split(",", -1)) {
                if (!sign.matches("-?[1-9]") || Math.abs(Integer.parseInt(sign)) <= last) {
                    return false;
                }
                last = Math.abs(Integer.parseInt(sign));
            }
        }
        return true;
    }

    /** Whether a text is whole already, or becomes so with one digit, the greatest one. */
    private static boolean canGoOn(String text) {
        return isWhole(text) || isWhole(text + "9");
    }

    int undo() {
        if (history.isEmpty()) {
            return NOT_POSSIBLE;
        }
        now = history.removeLast();
        return history.size();
    }

    int save(int slot) {
        if (slot < 0 || slot > 1) {
            return BAD_VALUE;
        }
        slots[slot] = now.copy();
        return now.told.size();
    }

    int restore(int slot) {
        if (slot < 0 || slot > 1) {
            return BAD_VALUE;
        }
        if (slots[slot] == null) {
            return NOT_POSSIBLE;
        }
        change();
        now = slots[slot].copy();
        return now.told.size();
    }
}
