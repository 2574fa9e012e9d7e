import java.util.ArrayList;
import java.util.Collections;
import java.util.List;
import java.util.Random;

/** Runs of calls, made from fixed seeds, whose answers are compared with those of the Model. */
public final class RandomRunsTest {
    private static final int MOST_CALLS = 512;
    private static final int[] EDGES = {Integer.MIN_VALUE, -6, -1, 0, 1, 2, 3, 4, 9, 10, 11, 12, 13, 19, 20, 21,
        59, 60, 61, 500, 501, Integer.MAX_VALUE};

    private final Random random;
    private final String name;
    private final ClauseWatch real = new ClauseWatch();
    private final Model model = new Model();
    private int calls = 0;

    private RandomRunsTest(String kind, int seed) {
        random = new Random(seed);
        name = kind + " run " + seed + ", call ";
    }

    public static void main(String[] args) {
        for (int seed = 0; seed < 300 && Due.wrong() == 0; seed++) {
            new RandomRunsTest("mixed", seed).mixed();
        }
        for (int seed = 0; seed < 300 && Due.wrong() == 0; seed++) {
            new RandomRunsTest("hard", seed).hard();
        }
        Due.end("RandomRunsTest");
    }

    // ---- the kinds of runs

    private void mixed() {
        int turns = random.nextInt(3) == 0 ? 5 : 40;
        while (calls < MOST_CALLS) {
            if (random.nextInt(turns) == 0) {
                set(0, 1 + random.nextInt(9));
            }
            switch (random.nextInt(12)) {
                case 0 -> text(8);
                case 1, 2 -> clauses();
                case 3 -> anyCall();
                case 4 -> slotsAndUndo();
                case 5 -> set(random.nextInt(4), random.nextInt(22));
                case 6 -> drop(random.nextInt(21));
                case 7 -> back(random.nextInt(3));
                case 8 -> answersAsked();
                default -> step(1 + random.nextInt(random.nextBoolean() ? 3 : 12));
            }
            probe();
        }
    }

    /** All things, and clauses that lead to many conflicts. */
    private void hard() {
        set(0, 9);
        set(1, 1 + random.nextInt(20));
        int many = 14 + random.nextInt(7);
        while (calls < 90 && model.count(0) < many) {
            wipe();
            text(clause(9, 2 + random.nextInt(3)));
            read();
        }
        while (calls < MOST_CALLS) {
            switch (random.nextInt(8)) {
                case 0 -> set(2, random.nextInt(2));
                case 1 -> back(random.nextInt(2));
                case 2 -> slotsAndUndo();
                case 3 -> set(1, 1 + random.nextInt(20));
                case 4 -> answersAsked();
                default -> step(1 + random.nextInt(random.nextInt(4) == 0 ? 100 : 6));
            }
            probe();
        }
    }

    // ---- texts

    private String clause(int things, int signs) {
        List<Integer> all = new ArrayList<>();
        for (int thing = 1; thing <= things; thing++) {
            all.add(thing);
        }
        Collections.shuffle(all, random);
        List<Integer> some = new ArrayList<>(all.subList(0, Math.min(things, signs)));
        Collections.sort(some);
        StringBuilder text = new StringBuilder();
        for (int thing : some) {
            text.append(text.length() == 0 ? "" : ",").append(random.nextBoolean() ? "" : "-").append(thing);
        }
        return text.toString();
    }

    private void clauses() {
        if (random.nextInt(4) != 0) {
            wipe();
        }
        int things = random.nextInt(12) == 0 ? 9 : model.count(7);
        int many = random.nextInt(10) == 0 ? 12 : 1 + random.nextInt(4);
        StringBuilder text = new StringBuilder();
        for (int i = 0; i < many; i++) {
            text.append(i == 0 ? "" : ";").append(clause(things, 1 + random.nextInt(many == 12 ? 1 : 4)));
        }
        text(text.toString());
        fault();
        read();
    }

    private void text(String text) {
        for (long number : Due.packed(text)) {
            put(number);
        }
    }

    /** Characters of the texts in any order, and often a fault. */
    private void text(int most) {
        String from = random.nextBoolean() ? "1234567899,,;-" : "0123456789,,,;;-~! ";
        StringBuilder text = new StringBuilder();
        for (int i = 0; i < 1 + random.nextInt(most); i++) {
            text.append(from.charAt(random.nextInt(from.length())));
        }
        if (random.nextInt(3) == 0) {
            wipe();
        }
        text(text.toString());
        fault();
    }

    // ---- calls

    private void slotsAndUndo() {
        int slot = random.nextInt(2);
        switch (random.nextInt(5)) {
            case 0 -> save(slot);
            case 1 -> restore(slot);
            default -> due("undo()", real.undo(), model.undo());
        }
    }

    private void answersAsked() {
        due("answers()", real.answers(), model.answers());
        due("needless()", real.needless(), model.needless());
        int thing = 1 + random.nextInt(10);
        int what = random.nextInt(3);
        due("inAnswers(" + thing + ", 0)", real.inAnswers(thing, 0), model.inAnswers(thing, 0));
        due("inAnswers(" + thing + ", 1)", real.inAnswers(thing, 1), model.inAnswers(thing, 1));
        for (int first = 0; first <= 1; first++) {
            due("searched(" + first + ", " + what + ")", real.searched(first, what), model.searched(first, what));
        }
        int sign = thing + (random.nextBoolean() ? 10 : 0);
        due("ifTold(" + sign + ")", real.ifTold(sign), model.ifTold(sign));
        int clause = random.nextInt(model.count(0) + model.count(1) + 1);
        due("follows(" + clause + ")", real.follows(clause), model.follows(clause));
    }

    private void probe() {
        for (int what = 0; what < 12; what++) {
            if (random.nextInt(3) == 0) {
                due("count(" + what + ")", real.count(what), model.count(what));
            }
        }
        for (int i = 0; i < 3; i++) {
            int thing = random.nextInt(11);
            int what = random.nextInt(4);
            due("of(" + thing + ", " + what + ")", real.of(thing, what), model.of(thing, what));
            int place = random.nextInt(10);
            due("trail(" + place + ")", real.trail(place), model.trail(place));
            int number = random.nextInt(model.count(0) + model.count(1) + 1);
            int about = random.nextInt(13);
            due("clause(" + number + ", " + about + ")", real.clause(number, about), model.clause(number, about));
        }
    }

    private int any() {
        return random.nextInt(20) == 0 ? random.nextInt() : EDGES[random.nextInt(EDGES.length)];
    }

    /** Any call with any arguments, those out of range among them. */
    private void anyCall() {
        int a = any();
        int b = any();
        String ab = "(" + a + ", " + b + ")";
        switch (random.nextInt(14)) {
            case 0 -> set(a, b);
            case 1 -> drop(a);
            case 2 -> step(a);
            case 3 -> back(a);
            case 4 -> due("of" + ab, real.of(a, b), model.of(a, b));
            case 5 -> due("trail(" + a + ")", real.trail(a), model.trail(a));
            case 6 -> due("clause" + ab, real.clause(a, b), model.clause(a, b));
            case 7 -> due("count(" + a + ")", real.count(a), model.count(a));
            case 8 -> due("inAnswers" + ab, real.inAnswers(a, b), model.inAnswers(a, b));
            case 9 -> due("follows(" + a + ")", real.follows(a), model.follows(a));
            case 10 -> due("searched" + ab, real.searched(a, b), model.searched(a, b));
            case 11 -> due("ifTold(" + a + ")", real.ifTold(a), model.ifTold(a));
            case 12 -> save(a);
            default -> restore(a);
        }
        put(random.nextBoolean() ? random.nextLong() : random.nextLong() >>> 8 * random.nextInt(8));
        put(0x2130_3132_3334_3536L & ~(255L << 8 * random.nextInt(8)));
    }

    private void set(int setting, int value) {
        due("set(" + setting + ", " + value + ")", real.set(setting, value), model.set(setting, value));
    }

    private void read() {
        due("read()", real.read(), model.read());
    }

    private void drop(int clause) {
        due("drop(" + clause + ")", real.drop(clause), model.drop(clause));
    }

    private void step(int steps) {
        due("step(" + steps + ")", real.step(steps), model.step(steps));
    }

    private void back(int level) {
        due("back(" + level + ")", real.back(level), model.back(level));
    }

    private void put(long characters) {
        due("put(" + characters + ")", real.put(characters), model.put(characters));
    }

    private void wipe() {
        due("wipe()", real.wipe(), model.wipe());
    }

    private void fault() {
        due("fault()", real.fault(), model.fault());
    }

    private void save(int slot) {
        due("save(" + slot + ")", real.save(slot), model.save(slot));
    }

    private void restore(int slot) {
        due("restore(" + slot + ")", real.restore(slot), model.restore(slot));
    }

    private void due(String call, long got, long want) {
        calls++;
        if (calls <= MOST_CALLS) {
            Due.due(name + calls + ": " + call, got, want);
        }
    }
}
