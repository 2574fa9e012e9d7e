import java.util.ArrayList;
import java.util.List;
import java.util.function.Supplier;

/** A state of an object, made anew by calls of its own as often as it is asked for. */
final class Scene {
    interface Call {
        int on(ClauseWatch x);
    }

    /** Decides 1, then 2; 3 and 4 follow; the last clause is false; 1,-3 is learned, and goes back to 1. */
    static final String LEARNS = "2,3;1,-3,4;1,-3,-4";

    /** Learns from 60 conflicts, and ends with NEVER: 20 clauses of 9 things. */
    static final String LEARNS_SIXTY = "-2,-4,5,7,-9;-6,8;3,5,6,-8,9;3,4,-7,-9;2,6,8;5,-7,-8;8,-9;2,3,4,6,7"
            + ";2,3,4,-7,8;4,6,7;1,5,6,-7,8;-4,6,7,-8;1,-5,-7,-8;-5,-7,-8;1,2,4,-6,7;-2,3,6,7,9;1,6,7,8,9;2,3,-6,7"
            + ";-6,7,-8;6,8,9";

    /** A text of 60 characters without a fault: 30 clauses. */
    static final String SIXTY_CHARACTERS = "1;".repeat(29) + "-1";

    static final Scene FRESH = new Scene("a new object", ClauseWatch::new);
    static final Scene MIDDLE = new Scene("in the middle", Scene::middle);
    static final Scene FULL = new Scene("full", Scene::full);
    static final Scene TWENTY = new Scene("twenty told", Scene::twenty);
    static final Scene FITS = new Scene("it fits, nine things decided", Scene::fits);
    static final Scene NEVER = new Scene("never", Scene::never);

    private final String name;
    private final Supplier<ClauseWatch> maker;
    /** What is seen of it, part by part; looked at when first asked for. */
    private final List<List<String>> seen = new ArrayList<>();

    Scene(String name, Supplier<ClauseWatch> maker) {
        this.name = name;
        this.maker = maker;
    }

    /** The scene, and one call more. */
    Scene then(String call, Call does) {
        return new Scene(name + ", then " + call, () -> {
            ClauseWatch x = make();
            does.on(x);
            return x;
        });
    }

    Scene withPad(String text) {
        return new Scene(name + ", the pad is \"" + text + "\"", () -> {
            ClauseWatch x = make();
            x.wipe();
            Due.due("puts of " + text, Due.puts(x, text), text.length());
            return x;
        });
    }

    ClauseWatch make() {
        return maker.get();
    }

    /** The call answers this error, and whatever can be seen is as it was without it. */
    void refuses(String call, Call does, int error) {
        Due.due(name + ": " + call, does.on(make()), error);
        staysBehind(call, does);
    }

    /** Whatever can be seen is the same with the call as without it. */
    void staysBehind(String call, Call does) {
        sameAs(name + " behind " + call, () -> {
            ClauseWatch x = make();
            does.on(x);
            return x;
        });
    }

    void sameAs(String otherName, Supplier<ClauseWatch> other) {
        for (int part = 0; part < Sight.PARTS; part++) {
            sameRows(otherName, Sight.part(other.get(), part), seenOf(part));
        }
    }

    /** The search and the told clauses are the same; the history, the slots and the pad may differ. */
    void sameSearchAs(String otherName, Supplier<ClauseWatch> other) {
        for (int part = 0; part <= 3; part++) {
            sameRows(otherName, withoutPadAndHistory(Sight.part(other.get(), part)),
                    withoutPadAndHistory(seenOf(part)));
        }
    }

    private static List<String> withoutPadAndHistory(List<String> rows) {
        List<String> kept = new ArrayList<>(rows);
        kept.removeIf(r -> r.startsWith("count(10)") || r.startsWith("count(11)") || r.startsWith("fault()"));
        return kept;
    }

    private List<String> seenOf(int part) {
        while (seen.size() <= part) {
            seen.add(Sight.part(make(), seen.size()));
        }
        return seen.get(part);
    }

    private static void sameRows(String otherName, List<String> got, List<String> want) {
        for (int i = 0; i < Math.min(got.size(), want.size()); i++) {
            if (!got.get(i).equals(want.get(i))) {
                Due.due(otherName, got.get(i), want.get(i));
                return;
            }
        }
        Due.due(otherName + ": rows", got.size(), want.size());
    }

    // ---- objects that more than one test begins with

    /** So many things, and these clauses told, as many at a time as the pad holds. */
    static ClauseWatch told(int things, String clauses) {
        ClauseWatch x = new ClauseWatch();
        Due.due("set(0, " + things + ")", x.set(0, things), 4);
        tell(x, clauses);
        return x;
    }

    static void tell(ClauseWatch x, String clauses) {
        int before = x.count(0);
        int many = 0;
        String text = "";
        for (String clause : clauses.split(";")) {
            many++;
            if (text.length() + 1 + clause.length() > 60) {
                x.wipe();
                Due.puts(x, text);
                x.read();
                text = "";
            }
            text += text.isEmpty() ? clause : ";" + clause;
        }
        Due.due("told " + clauses, Due.reads(x, text), before + many);
    }

    static ClauseWatch told(String clauses) {
        return told(4, clauses);
    }

    static ClauseWatch twenty() {
        return told("1;2;3;4;1;2;3;4;1;2;-1,2;3;4;1;2;3;4;1;2;3,4");
    }

    private static ClauseWatch middle() {
        ClauseWatch x = told(5, LEARNS);
        x.save(0);
        x.set(1, 7);
        x.step(6);
        Due.puts(x, "1,2");
        return x;
    }

    /** 20 told clauses, 40 learned ones, 60 characters, 6 states and both slots; 5 values, the search open. */
    private static ClauseWatch full() {
        ClauseWatch x = told(9, LEARNS_SIXTY);
        x.save(0);
        x.step(100);
        x.step(50);
        x.save(1);
        x.step(70);
        x.step(40);
        x.step(5);
        x.step(5);
        Due.puts(x, SIXTY_CHARACTERS);
        return x;
    }

    private static ClauseWatch fits() {
        ClauseWatch x = new ClauseWatch();
        x.set(0, 9);
        x.step(500);
        x.save(1);
        return x;
    }

    private static ClauseWatch never() {
        ClauseWatch x = told("1;-1");
        x.save(0);
        x.step(500);
        return x;
    }
}
