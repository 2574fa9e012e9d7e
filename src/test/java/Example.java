/** The example of README.md: each line that prints tells behind it what it prints, and why. */
public final class Example {
    public static void main(String[] args) {
        ClauseWatch x = new ClauseWatch();          // 4 things, no clauses
        tell(x, "1,2;1,-2,3;1,-3,4;1,-2,-4");       // thing 1 or thing 2 is 1; thing 1 is 1, or 2 is 0, or 3 is 1; ..
        System.out.println(x.count(10));            // 25: the length of the pad
        System.out.println(x.fault());              // -6: NONE, the text has no fault
        System.out.println(x.read());               // 4: so many told clauses there are now
        System.out.println(x.answers());            // 8
        System.out.println(x.inAnswers(1, 0));      // 8: thing 1 is 1 in all of them
        System.out.println(x.searched(0, 0));       // 10: the steps that a search takes
        System.out.println(x.step(4));              // 0: OPEN; 1 was decided to be 0, and 2, 3, 4 had to be 1
        System.out.println(x.of(4, 2));             // 2: the reason of 4 is clause 2
        System.out.println(x.clause(3, 11));        // 1: clause 3 is false
        System.out.println(x.step(1));              // 0: OPEN; it has learned from that
        System.out.println(x.clause(4, 0));         // 1: clause 4, the learned one, has one sign
        System.out.println(x.clause(4, 1));         // 1: thing 1 is 1
        System.out.println(x.of(1, 0));             // -6: NONE, it is back at level 0, and 1 has no value
        System.out.println(x.step(500));            // 1: FITS
        System.out.println(x.count(6));             // 10: as searched told
        System.out.println(x.of(1, 0));             // 1: the value of thing 1
        System.out.println(x.ifTold(11));           // 2: NEVER, no answer has 1 as 0
        System.out.println(x.drop(4));              // -1: NO_SUCH, clause 4 is no told one
        System.out.println(x.step(501));            // -2: BAD_VALUE, it is 500 at most
        System.out.println(x.read());               // -3: BAD_TEXT, the pad is empty
        System.out.println(x.set(0, 3));            // -5: NOT_POSSIBLE, clauses have the thing 4
        System.out.println(x.save(0));              // 4: what stands now is in slot 0, with 4 told clauses
        System.out.println(x.drop(3));              // 3: the search begins anew, without clause 3
        System.out.println(x.answers());            // 9
        System.out.println(x.undo());               // 4: clause 3 is back; so many changes can be undone still
        System.out.println(x.count(2));             // 1: FITS again
    }

    /** Appends a text to the pad, eight characters at a time, the last one of them in the lowest 8 bits. */
    private static void tell(ClauseWatch x, String text) {
        for (int start = 0; start < text.length(); start += 8) {
            long number = 0;
            for (int i = start; i < text.length() && i < start + 8; i++) {
                number = number << 8 | text.charAt(i);
            }
            x.put(number);
        }
    }
}
