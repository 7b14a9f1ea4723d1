/** Counts answers that are due, feeds texts, and ends a test by its exit code. */
final class Due {
    private static int right = 0;
    private static int wrong = 0;

    private Due() {
    }

    static void due(String call, long got, long want) {
        if (got == want) {
            right++;
            return;
        }
        wrong++;
        System.out.println(call + " answered " + got + ", due is " + want);
    }

    static void due(String call, boolean got, boolean want) {
        due(call, got ? 1 : 0, want ? 1 : 0);
    }

    /** An answer and the TROUBLE behind it. */
    static void due(RopeDancers x, String call, long got, long want, int trouble) {
        due(call, got, want);
        due(call + ", trouble", x.trouble(), trouble);
        if (trouble == 0) {
            // else a call that doesn't tell that it wasn't refused would be overlooked
            x.hall(-1);
        }
    }

    static void due(RopeDancers x, String call, boolean got, boolean want, int trouble) {
        due(x, call, got ? 1 : 0, want ? 1 : 0, trouble);
    }

    /** Feeds a text, blanks behind it to a multiple of twenty; what the last feed answered. */
    static int feed(RopeDancers x, String text) {
        int answer = -2;
        for (int at = 0; at < text.length(); at += 20) {
            answer = x.feed(four(text, at), four(text, at + 4), four(text, at + 8),
                four(text, at + 12), four(text, at + 16));
        }
        return answer;
    }

    private static int four(String text, int at) {
        int number = 0;
        for (int i = at; i < at + 4; i++) {
            number = number << 8 | (i < text.length() ? text.charAt(i) & 255 : ' ');
        }
        return number;
    }

    static int hall(RopeDancers x, String text) {
        feed(x, text);
        return x.hall(text.length());
    }

    /** A new object with a HALL. */
    static RopeDancers with(String text) {
        RopeDancers x = new RopeDancers();
        if (hall(x, text) < 1) {
            wrong++;
            System.out.println("no HALL: " + text + ", fault " + x.fault() + " at " + x.where());
        }
        return x;
    }

    static void end(String name) {
        System.out.println(name + ": " + right + " answers right, " + wrong + " wrong");
        if (wrong != 0 || right == 0) {
            System.exit(1);
        }
    }
}
