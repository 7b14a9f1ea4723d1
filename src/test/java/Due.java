/** Counts answers that are due, feeds texts, and ends a test by its exit code. */
final class Due {
    private static int right = 0;
    private static int wrong = 0;

    private Due() {
    }

    static void due(String call, long got, long want) {
        if (got == want) {
            right++;
            return;
        }
        wrong++;
        System.out.println(call + " answered " + got + ", due is " + want);
    }

    static void due(String call, boolean got, boolean want) {
        due(call, got ? 1 : 0, want ? 1 : 0);
    }

    /** An answer and the TROUBLE behind it. */
    static void due(RopeDancers x, String call, long got, long want, int trouble) {
        due(call, got, want);
        due(call + ", trouble", x.trouble(), trouble);
        if (trouble == 0) {
            // else a call that doesn't tell that it wasn't refused would be overlooked
            x.hall(-1);
        }
    }

    static void due(RopeDancers x, String call, boolean got, boolean want, int trouble) {
        due(x, call, got ? 1 : 0, want ? 1 : 0, trouble);
    }

    /** Feeds a text, blanks behind it to a multiple of twenty; what the last feed answered. */
    static int feed(RopeDancers x, String text) {
        int answer = -2;
        for (int at = 0; at < text.length(); at += 20) {
            answer = x.feed(four(text, at), four(text, at + 4), four(text, at + 8),
                four(text, at + 12), four(text, at + 16));
        }
        return answer;
    }

    private static int four(String text, int at) {
        int number = 0;
        for (int i = at; i < at + 4; i++) {
            number = number << 8 | (i < text.length() ? text.charAt(i) & 255 : ' ');
        }
        return number;
    }

    static int hall(RopeDancers x, String text) {
        feed(x, text);
        return x.hall(text.length());
    }

    /** A new object with a HALL. */
    static RopeDancers with(String text) {
        RopeDancers x = new RopeDancers();
        if (hall(x, text) < 1) {
            wrong++;
            System.out.println("no HALL: " + text + ", fault " + x.fault() + " at " + x.where());
        }
        return x;
    }

    /** A text with a | ahead of the place of its FAULT. */
    static void faulty(String marked, int number) {
        int place = marked.indexOf('|');
        String text = marked.substring(0, place) + marked.substring(place + 1);
        RopeDancers x = new RopeDancers();
        int answer = text.isEmpty() ? x.hall(0) : hall(x, text);
        due(x, "P3 hall of " + marked, answer, -1, 4);
        due("P4 fault of " + marked, x.fault(), number);
        due("P5 where of " + marked, x.where(), place);
    }

    /** A ROW that leads from 0 by 1 to a fraction. */
    static String row(int over, int under) {
        if (under == 0) {
            return "r";
        }
        int whole = Math.floorDiv(2 * over + under, 2 * under);
        int rest = over - whole * under;
        String twists = whole < 0 ? "u".repeat(-whole) : "t".repeat(whole);
        return rest == 0 ? twists : row(rest > 0 ? -under : under, Math.abs(rest)) + "r" + twists;
    }

    /** A new object with a TANGLE for each fraction, named a, b ..; 0 by 1 is danced by tu. */
    static RopeDancers tangles(int[]... fractions) {
        StringBuilder text = new StringBuilder("hall slips 0");
        for (int d = 0; d < fractions.length; d++) {
            String row = fractions[d][0] == 0 ? "tu" : row(fractions[d][0], fractions[d][1]);
            text.append(";dance ").append((char) ('a' + d)).append(' ').append(row);
        }
        RopeDancers x = with(text.toString());
        for (int d = 0; d < fractions.length; d++) {
            is(x, "a TANGLE of " + text, d, fractions[d][0], fractions[d][1]);
        }
        return x;
    }

    static void is(RopeDancers x, String what, int d, int over, int under) {
        due(what + ", upper " + d, x.upper(d), over);
        due(what + ", lower " + d, x.lower(d), under);
    }

    static void end(String name) {
        System.out.println(name + ": " + right + " answers right, " + wrong + " wrong");
        if (wrong != 0 || right == 0) {
            System.exit(1);
        }
    }
}
