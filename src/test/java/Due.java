import java.util.ArrayList;
import java.util.List;

/** Counts the answers that are not as due, prints them, and ends the test. */
final class Due {
    /** Far above what the longest test takes: a call that does not end is a fault, too. */
    private static final long MOST_SECONDS = 200;

    private static int right = 0;
    private static int wrong = 0;
    private static volatile String about = "";

    static {
        Thread guard = new Thread(Due::endIfItLasts);
        guard.setDaemon(true);
        guard.start();
    }

    private Due() {
    }

    private static void endIfItLasts() {
        try {
            Thread.sleep(MOST_SECONDS * 1000);
        } catch (InterruptedException e) {
            return;
        }
        System.out.println(about + "does not end");
        Runtime.getRuntime().halt(1);
    }

    /** What the answers that come now are about; it stands ahead of every one that is not as due. */
    static void about(String what) {
        about = what;
    }

    static void due(String call, long got, long want) {
        if (got == want) {
            right++;
        } else {
            wrong(call + " answered " + got + ", due is " + want);
        }
    }

    static void due(String what, String got, String want) {
        if (got.equals(want)) {
            right++;
        } else {
            wrong(what + ": \"" + got + "\", due is \"" + want + "\"");
        }
    }

    static void holds(String what, boolean holds) {
        due(what + ", which is so if 1, and", holds ? 1 : 0, 1);
    }

    static void wrong(String what) {
        wrong++;
        System.out.println(about + what);
    }

    static int wrong() {
        return wrong;
    }

    static void end(String test) {
        System.out.println(test + ": " + right + " answers as due, " + wrong + " not");
        if (wrong != 0 || right == 0) {
            System.exit(1);
        }
    }

    /** The numbers by which put is told a text, 8 characters at most in each. */
    static List<Long> packed(String text) {
        List<Long> numbers = new ArrayList<>();
        for (int start = 0; start < text.length(); start += 8) {
            long number = 0;
            for (int i = start; i < Math.min(start + 8, text.length()); i++) {
                number = number << 8 | text.charAt(i);
            }
            numbers.add(number);
        }
        return numbers;
    }

    /** Appends a text to the pad; what the last put answered (0 without any). */
    static int puts(ClauseWatch x, String text) {
        int answer = 0;
        for (long number : packed(text)) {
            answer = x.put(number);
        }
        return answer;
    }

    /** Empties the pad, then reads a text. */
    static int reads(ClauseWatch x, String text) {
        x.wipe();
        puts(x, text);
        return x.read();
    }
}
