import java.util.ArrayList;
import java.util.List;

/** Counts the answers that are not as due, prints them, and ends the test. */
final class Due {
    private static int right = 0;
    private static int wrong = 0;

    private Due() {
    }

    static void due(String call, long got, long want) {
        if (got == want) {
            right++;
        } else {
            wrong++;
            System.out.println(call + " answered " + got + ", due is " + want);
        }
    }

    static int wrong() {
        return wrong;
    }

    static void end(String test) {
        System.out.println(test + ": " + right + " answers as due, " + wrong + " not");
        if (wrong != 0) {
            System.exit(1);
        }
    }

    /** The numbers by which put is told a text, 8 characters at most in each. */
    static List<Long> packed(String text) {
        List<Long> numbers = new ArrayList<>();
        for (int start = 0; start < text.length(); start += 8) {
            long number = 0;
            for (int i = start; i < Math.min(start + 8, text.length()); i++) {
                number = number << 8 | text.charAt(i);
            }
            numbers.add(number);
        }
        return numbers;
    }

    /** Appends a text to the pad; what the last put answered (0 without any). */
    static int puts(ClauseWatch x, String text) {
        int answer = 0;
        for (long number : packed(text)) {
            answer = x.put(number);
        }
        return answer;
    }

    /** Empties the pad, then reads a text. */
    static int reads(ClauseWatch x, String text) {
        x.wipe();
        puts(x, text);
        return x.read();
    }
}
