/** The bounds that the document names in THE TEXT of a HALL, and in promises 1 to 5. */
final class BoundsText {
    private static final String ONE = "hall slips 0;dance a tur";
    private static final String TWELVE = "hall slips 0;dance a tttttttttttt";

    private BoundsText() {
    }

    static void all() {
        blanks();
        words();
        wholes();
        semicolons();
        lines();
        hallLine();
        danceLine();
        unsureLine();
        seenLine();
        corners();
        names();
        firstFault();
        forms();
        cutAndLeft();
        faults();
        newObject();
        feed();
        feedBytes();
        hall();
        hallStays();
        fault();
        where();
    }

    private static void fine(String text, int dances) {
        RopeDancers x = new RopeDancers();
        Due.due(x, "P3 hall of " + text, Due.hall(x, text), dances, 0);
        Due.due("P4 fault of " + text, x.fault(), 0);
    }

    private static void blanks() {
        Doc.says("I", "blanks, 32, part TOKENS and mean nothing else;");
        fine(ONE, 1);
        fine(" " + ONE, 1);
        fine(ONE + " ", 1);
        fine("hall slips 0 ;dance a tur", 1);
        fine("hall  slips   0;    dance a  tur", 1);
        fine("hall slips0;dance a tur", 1);
        Due.faulty("|ha ll slips 0;dance a t", 1);
        Due.faulty("|hallslips 0;dance a t", 1);
        Due.faulty("hall slips 1 |0;dance a t", 1);
        Due.faulty("hall slips 0;dance a t |u", 1);
        Due.faulty("hall slips 0;dance a |b t", 7);
        for (int sign : new int[] {0, 9, 10, 13, 31, 33, 127, 128, 160, 255}) {
            Due.faulty("hall slips 0|" + (char) sign + ";dance a t", 1);
            Due.faulty("hall slips 0;dance a t|" + (char) sign, 1);
        }
    }

    private static void words() {
        Doc.says("I", "TOKENS: WORDS of 1 to 12 small letters that stand together,");
        fine("hall slips 0;dance a t", 1);
        fine(TWELVE, 1);
        Due.faulty("hall slips 0;dance a |ttttttttttttt", 1);
        // of 12 it is a WORD, though no ROW; of 13 it begins no TOKEN
        Due.faulty("hall slips 0;dance a |tttttttttttx", 7);
        Due.faulty("hall slips 0;dance a |ttttttttttttx", 1);
        fine("hall slips 0;dance az t;dance z t", 2);
        for (char sign : new char[] {'`', '{', '@', 'A', 'T', 'Z', '['}) {
            Due.faulty("hall slips 0;dance |" + sign + " t", 1);
            Due.faulty("hall slips 0;dance a|" + sign + " t", 1);
            Due.faulty("hall slips 0;dance a t|" + sign, 1);
        }
    }

    private static void wholes() {
        Doc.says("I", "WHOLES of 1 to 3 digits that do,");
        for (String whole : new String[] {"5", "05", "005"}) {
            Due.due("I slips " + whole, Due.with("hall slips " + whole + ";dance a t").size(0), 5);
        }
        Due.faulty("hall slips |0005;dance a t", 1);
        Due.faulty("hall slips |0100;dance a t", 1);
        Due.faulty("hall slips |999;dance a t", 4);
        Due.faulty("hall slips |1000;dance a t", 1);
        Due.faulty("hall slips |4294967296;dance a t", 1);
        Due.due("I digits", Due.with("hall slips 90;dance a t").size(0), 90);
        Due.due("I digits", Due.with("hall slips 18;dance a t").size(0), 18);
        for (char sign : new char[] {'/', ':', '-', '+', '.', ','}) {
            Due.faulty("hall slips |" + sign + ";dance a t", 1);
            Due.faulty("hall slips 9|" + sign + ";dance a t", 1);
        }
        Due.faulty(TWELVE + ";unsure a |0001", 1);
        fine(TWELVE + ";unsure a 001;unsure a 11;seen a 012 nw ne", 1);
    }

    private static void semicolons() {
        Doc.says("I", "single ones of ;):");
        fine("hall slips 0;dance a t;dance b t", 2);
        fine("hall slips 0 ; dance a t;dance b t", 2);
        Due.faulty("hall slips 0;|;dance a t", 1);
        Due.faulty("hall slips 0; |;dance a t", 1);
        Due.faulty("hall slips 0|:dance a t", 1);
        Due.faulty("hall slips 0|<dance a t", 1);
    }

    private static void lines() {
        Doc.says("I", "LINE {; LINE}. LINE, one of:");
        Due.faulty("|", 1);
        Due.faulty("  |", 1);
        Due.faulty("hall slips 0|", 6);
        fine("hall slips 0;dance a t", 1);
        Due.faulty("hall slips 0;dance a t;|", 1);
        Due.faulty("|;hall slips 0;dance a t", 1);
        Due.faulty("hall slips 0 |dance a t", 1);
        Due.faulty("hall slips 0;dance a t |dance b t", 1);
        for (String line : new String[] {"|slips 0", "|halls", "|dances b t", "|7", "|nw", "|b t"}) {
            Due.faulty(ONE + ";" + line, 1);
        }
    }

    private static void hallLine() {
        Doc.says("I", "hall slips WHOLE (0 .. 100 in a hundred), ahead of all others");
        for (int slips : new int[] {0, 1, 99, 100}) {
            Due.due("I slips " + slips, Due.with("hall slips " + slips + ";dance a t").size(0), slips);
        }
        Due.faulty("hall slips |101;dance a t", 4);
        Due.faulty("hall slips |-1;dance a t", 1);
        Due.faulty("|dance a t;hall slips 0", 6);
        Due.faulty("|unsure a 0;hall slips 0;dance a t", 6);
        Due.faulty("|seen a 0 nw ne;hall slips 0;dance a t", 6);
        Due.faulty("hall |0 slips;dance a t", 1);
        // in a hundred: by 100 none is danced, by 0 all are
        Due.due("I slips 100", Due.with("hall slips 100;dance a t").untied(0, 1, false), 1);
        Due.due("I slips 0", Due.with("hall slips 0;dance a t").untied(0, 1, false), 0);
        Due.due("I slips 1", Due.with("hall slips 1;dance a t").untied(0, 1, true), 100);
    }

    private static void danceLine() {
        Doc.says("I", "dance NAME ROW (ROW: a WORD of t, a twist, u, an untwist, and r, a turn; up to 5)");
        RopeDancers x = Due.with("hall slips 0;dance a t;dance b u;dance c r;dance d turtutrruutr");
        Due.is(x, "I a twist", 0, 1, 1);
        Due.is(x, "I an untwist", 1, -1, 1);
        Due.is(x, "I a turn", 2, 1, 0);
        Due.due("I a row of one", x.figures(0), 1);
        Due.due("I a row of twelve", x.figures(3), 12);
        // the signs next to t, u and r
        for (String row : new String[] {"q", "s", "v", "tq", "us", "rv", "a", "z", "tttttttttttv"}) {
            Due.faulty("hall slips 0;dance a |" + row, 7);
        }
        String four = "hall slips 0;dance a t;dance b t;dance c t;dance d t";
        fine(four, 4);
        fine(four + ";dance e t", 5);
        Due.faulty(four + ";dance e t;|dance f t", 5);
    }

    private static void unsureLine() {
        Doc.says("I", "unsure DANCE WHOLE (a place of its ROW, 0 the first, at which the figure may not have been danced at all;"
            + " each two once; up to 4), or");
        fine("hall slips 0;dance a t;unsure a 0", 1);
        Due.faulty("hall slips 0;dance a t;unsure a |1", 4);
        fine(TWELVE + ";unsure a 0;unsure a 11", 1);
        Due.faulty(TWELVE + ";unsure a |12", 4);
        Due.faulty(TWELVE + ";unsure a |999", 4);
        Due.faulty(TWELVE + ";dance b t;unsure b |1", 4);
        // 0 the first: without it r leads to 1 by 0; without 1 it is 1 by 1
        Due.due("I 0 the first", Due.with("hall slips 0;dance a tr;unsure a 0;seen a 2 nw sw").fitAt(0), 1);
        Due.due("I 1 the second", Due.with("hall slips 0;dance a ttr;unsure a 2;seen a 3 nw ne").fitAt(0), 1);
        String two = TWELVE + ";dance b tt;unsure a 0";
        fine(two + ";unsure a 1", 2);
        fine(two + ";unsure b 0", 2);
        Due.faulty(two + ";unsure a |0", 3);
        Due.faulty(two + ";unsure b 0;unsure a 1;unsure b |0", 3);
        String three = two + ";unsure b 0;unsure b 1";
        Due.due("I up to 4", Due.with(three).size(2), 3);
        Due.due("I up to 4", Due.with(three + ";unsure a 11").size(2), 4);
        Due.faulty(three + ";unsure a 11;|unsure a 10", 5);
        Due.faulty(three + ";unsure a 11;|unsure a 11", 5);
    }

    private static void seenLine() {
        Doc.says("I", "seen DANCE WHOLE CORNER CORNER (behind so many figures of its ROW, 0 .. as many as it has,");
        fine("hall slips 0;dance a t;seen a 0 nw ne;seen a 1 nw se", 1);
        Due.faulty("hall slips 0;dance a t;seen a |2 nw ne", 4);
        fine(TWELVE + ";seen a 0 nw ne;seen a 12 nw ne", 1);
        Due.faulty(TWELVE + ";seen a |13 nw ne", 4);
        Due.faulty(TWELVE + ";dance b t;seen b |2 nw ne", 4);
        // behind 0 it is 0 by 1, behind 1 it is 1 by 1, behind all it is 2 by 1
        Due.due("I behind so many", Due.with("hall slips 0;dance a tt;seen a 0 nw ne;seen a 1 nw se;seen a 2 nw ne").judge(), -2);
        Due.due("I behind so many", Due.with("hall slips 0;dance a tt;seen a 0 nw se").judge(), 0);
        Due.due("I behind so many", Due.with("hall slips 0;dance a tt;seen a 1 nw ne").judge(), 0);
        Due.due("I behind so many", Due.with("hall slips 0;dance a tt;seen a 2 nw se").judge(), 0);

        Doc.says("I", "each number of a DANCE once; up to 6)");
        String two = TWELVE + ";dance b tt;seen a 0 nw ne";
        fine(two + ";seen a 1 nw se", 2);
        fine(two + ";seen b 0 nw ne", 2);
        Due.faulty(two + ";seen a |0 sw se", 3);
        Due.faulty(two + ";seen b 1 nw se;seen a 1 nw se;seen b |1 nw se", 3);
        String five = two + ";seen a 1 nw se;seen a 2 nw ne;seen b 0 nw ne;seen b 1 nw se";
        Due.due("I up to 6", Due.with(five).size(3), 5);
        Due.due("I up to 6", Due.with(five + ";seen b 2 nw ne").size(3), 6);
        Due.faulty(five + ";seen b 2 nw ne;|seen a 12 nw ne", 5);
        Due.faulty(five + ";seen b 2 nw ne;|seen", 5);
    }

    private static void corners() {
        Doc.says("I", "the rope from the one, unlike, goes to the other; CORNER: nw, ne, sw, or se;");
        String[] corners = {"nw", "ne", "sw", "se"};
        String line = "hall slips 0;dance a rt;seen a 0 ";
        for (int from = 0; from < 4; from++) {
            for (int to = 0; to < 4; to++) {
                if (from == to) {
                    Due.faulty(line + corners[from] + " |" + corners[to], 3);
                    continue;
                }
                // at first the ropes go from nw to ne, from sw to se
                boolean so = (from ^ to) == 1;
                RopeDancers x = Due.with(line + corners[from] + " " + corners[to]);
                Due.due("I " + corners[from] + " " + corners[to], x.judge(), so ? -2 : 0);
                Due.due("I " + corners[from] + " " + corners[to], x.end(0, from) == to, (from ^ to) == 2);
            }
        }
        for (String none : new String[] {"n", "nn", "we", "wn", "nwe", "nwne", "a", "0", ";"}) {
            Due.faulty(line + "|" + none + " ne", 1);
            Due.faulty(line + "nw |" + none, 1);
        }
    }

    private static void names() {
        Doc.says("I", "NAMES are WORDS of 1 to 8 letters but hall, dance, unsure, seen (a longer one is FAULT 1);");
        fine("hall slips 0;dance a t;dance abcdefgh t;unsure abcdefgh 0;seen abcdefgh 1 nw se", 2);
        for (String line : new String[] {"dance |abcdefghi t", "unsure |abcdefghi 0", "seen |abcdefghi 0 nw ne",
            "dance |abcdefghijkl t", "dance |abcdefghijklm t"}) {
            Due.faulty(ONE + ";" + line, 1);
        }
        for (String word : new String[] {"hall", "dance", "unsure", "seen"}) {
            Due.faulty(ONE + ";dance |" + word + " t", 1);
            Due.faulty(ONE + ";unsure |" + word + " 0", 1);
            Due.faulty(ONE + ";seen |" + word + " 0 nw ne", 1);
            // a letter more or less, and it is a NAME
            fine(ONE + ";dance " + word + "s t;unsure " + word + "s 0", 2);
            String less = word.substring(0, word.length() - 1);
            fine(ONE + ";dance " + less + " t;seen " + less + " 0 nw ne", 2);
        }
        fine("hall slips 0;dance slips t;dance nw u;dance t r;dance tur tur;unsure slips 0;seen nw 1 nw se", 4);

        Doc.says("I", "each told once, ahead of its use.");
        Due.faulty(ONE + ";dance |a t", 3);
        Due.faulty(ONE + ";dance b t;dance |b t", 3);
        fine("hall slips 0;dance abcdefgh t;dance abcdefgi t;dance bbcdefgh t;dance abcdefg t", 4);
        Due.faulty("hall slips 0;dance abcdefgh t;dance |abcdefgh t", 3);
        Due.faulty(ONE + ";unsure |b 0;dance b t", 2);
        Due.faulty(ONE + ";seen |b 0 nw ne;dance b t", 2);
        fine(ONE + ";dance b t;unsure b 0;seen b 0 nw ne", 2);
        Due.faulty("hall slips 0;unsure |a 0;dance a t", 2);
    }

    private static void firstFault() {
        Doc.says("I", "FAULTS, the first that is met from the left, of one place the least number:");
        Due.faulty("hall slips |101;dance a x;dance hall;?", 4);
        Due.faulty("hall slips |?;dance a x", 1);
        Due.faulty(ONE + ";unsure |b 3;?", 2);
        Due.faulty(ONE + ";unsure a |3;unsure b 0", 4);
        Due.faulty(ONE + ";dance |a x;unsure b 0", 3);
        Due.faulty(ONE + ";dance b |x;dance a t", 7);
        Due.faulty(ONE + ";seen a |4 nw nw", 4);
        Due.faulty(ONE + ";seen a 3 nw |nw?", 3);
        Due.faulty("|dance a x", 6);
        // FORM and LACKS at the end; FORM and a second hall; FORM and a NAME not told; FORM and ROW
        Due.faulty("|", 1);
        Due.faulty("hall slips 0;|", 1);
        Due.faulty("hall |hall slips 0;dance a t", 1);
        Due.faulty("hall slips 0 |hall slips 0;dance a t", 1);
        Due.faulty(ONE + ";unsure |seen 0", 1);
        Due.faulty(ONE + ";seen |bcdefghij 0 nw ne", 1);
        Due.faulty("hall slips 0;dance a |xxxxxxxxxxxxx", 1);
        Due.faulty("hall slips 0;dance a |xxxxxxxxxxxx", 7);
    }

    private static void forms() {
        Doc.says("I", "1 FORM: the first byte that begins no TOKEN, or TOKEN with which no HALL goes on (the end: its place).");
        Due.faulty("|?hall slips 0;dance a t", 1);
        Due.faulty(ONE + ";dance b|?t", 1);
        Due.faulty("|0 hall slips 0;dance a t", 1);
        Due.faulty("hall slips |slips;dance a t", 1);
        Due.faulty("hall slips 0;dance a |0", 1);
        for (String cut : new String[] {"hall", "hall slips", "hall slips 0;", "hall slips 0;dance", "hall slips 0;dance b",
            ONE + ";", ONE + ";unsure", ONE + ";unsure a", ONE + ";seen", ONE + ";seen a", ONE + ";seen a 0", ONE + ";seen a 0 nw"}) {
            Due.faulty(cut + "|", 1);
            Due.faulty(cut + "   |", 1);
            // the end is that of the first n bytes, whatever comes behind them
            RopeDancers x = new RopeDancers();
            Due.feed(x, cut + " tur ;?");
            Due.due("I cut " + cut, x.hall(cut.length()), -1);
            Due.due("I cut " + cut, x.fault() * 1000 + x.where(), 1000 + cut.length());
        }
    }

    /** What stands behind the first n bytes is no part of a TOKEN; what was told ahead of a FAULT isn't told. */
    private static void cutAndLeft() {
        RopeDancers x = new RopeDancers();
        Due.feed(x, TWELVE + ";unsure a 010");
        Due.due("I cut within a WHOLE", x.hall(TWELVE.length() + 12), 1);
        Due.due("I cut within a WHOLE", x.fits(), 2);
        Due.feed(x, TWELVE + ";unsure a 010");
        Due.due("I cut within a WORD", x.hall(TWELVE.length() - 5), 1);
        Due.due("I cut within a WORD", x.figures(0), 7);
        Due.due("I nothing left of it", x.size(2), 0);
        String told = ";unsure a 0;unsure a 1;unsure a 2;unsure a 3;seen a 0 nw ne;seen a 1 nw ne";
        for (int i = 0; i < 2; i++) {
            Due.due("I a FAULT behind others", Due.hall(x, TWELVE + ";dance b t" + told + ";?"), -1);
            Due.due("I all of it anew", Due.hall(x, TWELVE + told), 1);
            Due.due("I all of it anew", x.size(2) * 10 + x.size(3), 42);
        }
        Due.due("I a FAULT behind others", Due.hall(x, TWELVE + told + ";?"), -1);
        Due.due("I nothing left of it", Due.hall(x, TWELVE), 1);
        Due.due("I nothing left of it", x.size(2) + x.size(3), 0);
    }

    private static void faults() {
        Doc.says("I", "2 a NAME that isn't told; at it.");
        Due.faulty(ONE + ";unsure  |b 0", 2);
        Due.faulty(ONE + ";seen  |aa 0 nw ne", 2);
        fine(ONE + ";unsure a 0;seen a 0 nw ne", 1);
        Doc.says("I", "3 a NAME told again; at it; a place unsure already, a number seen already; at that WHOLE;"
            + " a second CORNER that is the first; at it; a second hall: at that WORD.");
        Due.faulty(ONE + ";dance  |a t", 3);
        Due.faulty(ONE + ";unsure a 2;unsure a  |02", 3);
        Due.faulty(ONE + ";seen a 3 nw se;seen a  |003", 3);
        Due.faulty(ONE + ";seen a 3 nw  |nw", 3);
        Due.faulty(ONE + "; |hall", 3);
        Due.faulty("hall slips 0; |hall slips 101", 3);
        Doc.says("I", "4 a WHOLE out of bounds; at it.");
        Due.faulty("hall slips  |101", 4);
        Due.faulty(ONE + ";unsure a  |3", 4);
        Due.faulty(ONE + ";seen a  |4", 4);
        fine("hall slips 100;dance a tur;unsure a 2;seen a 3 nw ne", 1);
        Doc.says("I", "5 MANY: a LINE more of its sort than there is room for, at its first WORD.");
        String full = TWELVE + ";dance b t;dance c t;dance d t;dance e t;unsure a 0;unsure a 1;unsure a 2;unsure a 3"
            + ";seen a 0 nw ne;seen a 1 nw ne;seen a 2 nw ne;seen a 3 nw ne;seen a 4 nw ne;seen a 5 nw ne";
        fine(full, 5);
        for (String line : new String[] {"dance f t", "dance", "unsure b 0", "unsure", "seen b 0 nw ne", "seen"}) {
            Due.faulty(full + ";  |" + line, 5);
        }
        Doc.says("I", "6 LACKS: any LINE ahead of the hall; at its WORD; at the end: no dance.");
        for (String line : new String[] {"dance a t", "dance", "unsure a 0", "seen", "seen a 0 nw ne"}) {
            Due.faulty("  |" + line, 6);
            Due.faulty("  |" + line + ";" + ONE, 6);
        }
        Due.faulty("hall slips 0|", 6);
        Due.faulty("hall slips 100   |", 6);
        fine("hall slips 0;dance a t", 1);
        Doc.says("I", "7 ROW: a WORD in its place that is none; at it.");
        for (String row : new String[] {"x", "tux", "xtu", "hall", "slips", "dance", "nw"}) {
            Due.faulty(ONE + ";dance b  |" + row, 7);
        }
    }

    private static void newObject() {
        Doc.says(1, "No HALL.");
        RopeDancers x = new RopeDancers();
        for (int what = 0; what <= 6; what++) {
            Due.due("P1 size " + what, x.size(what), 0);
        }
        Due.due("P1 fault", x.fault(), 0);
        Due.due("P1 where", x.where(), -1);
        Due.due("P1 trouble", x.trouble(), 0);
        Due.due(x, "P1 hall of nothing", x.hall(1), -1, 2);
        Due.due(x, "P1 no dance", x.upper(0), -100000, 1);
        Due.due(x, "P1 no HALL", x.fits(), -1, 1);
    }

    private static void feed() {
        Doc.says("I", "THE TEXT of a HALL (THE TAPE has 600 bytes;");
        Doc.says(2, "how many it has; NONE, and none comes, if there would be more than 600.");
        RopeDancers x = new RopeDancers();
        for (int i = 1; i <= 30; i++) {
            Due.due("P2 feed " + i, x.feed(0, 0, 0, 0, 0), 20 * i);
            Due.due("P2 feed " + i, x.size(6), 20 * i);
        }
        Due.due("P2 one more", x.feed(0, 0, 0, 0, 0), -1);
        Due.due("P2 none comes", x.size(6), 600);
        Due.due("P2 it isn't refused by a number", x.trouble(), 0);
        Due.due(x, "P3 601", x.hall(601), -1, 2);
        Due.due(x, "P3 600", x.hall(600), -1, 4);
        Due.due("P2 behind an empty one", x.feed(0, 0, 0, 0, 0), 20);
        // what is refused leaves THE TAPE as it was: full, it is a HALL to its last byte
        RopeDancers y = new RopeDancers();
        String text = ONE + " ".repeat(600 - ONE.length() - 10) + ";dance b t";
        Due.due("P2 a full one", Due.feed(y, text), 600);
        Due.due("P2 a full one", y.feed(-1, -1, -1, -1, -1), -1);
        Due.due(y, "P3 a full one", y.hall(600), 2, 0);
    }

    private static void feedBytes() {
        Doc.says(2, "Twenty bytes come behind THE TAPE, of each number the highest first:");
        // a good text but for one byte of 255 at each place in turn; a sign bit is no trouble
        String text = "hall slips 7;dance a";
        for (int i = 0; i < 20; i++) {
            RopeDancers x = new RopeDancers();
            int[] five = new int[5];
            for (int k = 0; k < 20; k++) {
                five[k / 4] = five[k / 4] << 8 | (k == i ? 255 : text.charAt(k));
            }
            Due.due("P2 byte " + i, x.feed(five[0], five[1], five[2], five[3], five[4]), 20);
            Due.due("P2 byte " + i, x.hall(20), -1);
            // within a WORD what stands ahead of it is met first: as a WORD cut short it is none
            int[] met = {0, 0, 0, 0, 4, 5, 5, 5, 5, 5, 10, 11, 12, 13, 13, 13, 13, 13, 18, 19};
            Due.due("P2 byte " + i, x.where(), met[i]);
        }
        RopeDancers y = new RopeDancers();
        Due.feed(y, "hall slips 7;dance a");
        Due.feed(y, "bc tur              ");
        Due.due("P2 behind the others", y.hall(26), 1);
        Due.due("P2 behind the others", y.figures(0), 3);
    }

    private static void hall() {
        Doc.says(3, "The first n bytes of THE TAPE (it is empty then) are the HALL from now on (nothing to undo, no IMAGES): how many dances.");
        RopeDancers x = new RopeDancers();
        Due.feed(x, ONE);
        Due.due(x, "P3 one more than it has", x.hall(41), -1, 2);
        Due.due(x, "P3 all it has", x.hall(40), 1, 0);
        Due.due("P3 it is empty then", x.size(6), 0);
        Due.feed(x, ONE + ";dance b t");
        Due.due(x, "P3 the first bytes", x.hall(ONE.length()), 1, 0);
        Due.due("P3 it is empty then, the others too", x.size(6), 0);
        Due.due(x, "P3 of an empty one", x.hall(1), -1, 2);
        Due.due(x, "P3 five", Due.hall(x, ONE + ";dance b t;dance c t;dance d t;dance e t"), 5, 0);
        x.call(0, 0);
        x.image();
        Due.due("P3 an act", x.size(4), 1);
        Due.due("P3 an image", x.size(5), 1);
        Due.due(x, "P3 from now on", Due.hall(x, ONE), 1, 0);
        Due.due(x, "P3 nothing to undo", x.undo(), false, 6);
        Due.due(x, "P3 no IMAGES", x.back(0), false, 1);
        Due.due(x, "P3 no second dance", x.upper(1), -100000, 1);
        Due.is(x, "P3 the TANGLES of the new one", 0, 1, 0);
        Due.due(x, "P3 room for IMAGES again", x.image(), 0, 0);
    }

    private static void hallStays() {
        Doc.says(3, "NONE: 2 (THE TAPE stays); 4 (the HALL stays).");
        RopeDancers x = Due.with(ONE + ";dance b t;unsure a 0;seen a 1 nw se");
        x.call(0, 2);
        x.image();
        x.call(1, 0);
        Due.feed(x, "hall slips 9;dance z tt");
        for (int n : new int[] {-1, 41, Integer.MIN_VALUE, Integer.MAX_VALUE}) {
            Due.due(x, "P3 of " + n, x.hall(n), -1, 2);
            Due.due("P3 THE TAPE stays", x.size(6), 40);
        }
        Due.due(x, "P3 of 22", x.hall(21), -1, 4);
        Due.due("P3 by 4 it is empty", x.size(6), 0);
        int[] sizes = {0, 2, 1, 1, 2, 1, 0};
        for (int what = 0; what < 7; what++) {
            Due.due("P3 the HALL stays, " + what, x.size(what), sizes[what]);
        }
        Due.is(x, "P3 the HALL stays", 0, 0, 1);
        Due.is(x, "P3 the HALL stays", 1, 2, 1);
        Due.due("P3 the HALL stays", x.undo(), true);
        Due.is(x, "P3 what can be undone stays", 1, 1, 1);
        Due.due("P3 the HALL stays", x.undo(), true);
        Due.is(x, "P3 what can be undone stays", 0, 1, 0);
        Due.due("P3 IMAGES stay", x.back(0), true);
        Due.is(x, "P3 IMAGES stay", 0, 0, 1);
        // without a HALL there is none behind a FAULT either
        RopeDancers y = new RopeDancers();
        Due.due(y, "P3 a dance, then a FAULT", Due.hall(y, ONE + ";?"), -1, 4);
        Due.due(y, "P3 none still", y.fits(), -1, 1);
        Due.due("P3 none still", y.size(1), 0);
        Due.due("P3 then one", Due.hall(y, ONE), 1);
    }

    private static void fault() {
        Doc.says(4, "The FAULT of the latest hall() not refused by 2; 0 without one.");
        RopeDancers x = new RopeDancers();
        Due.due("P4 no hall() yet", x.fault(), 0);
        x.hall(1);
        Due.due("P4 refused by 2", x.fault(), 0);
        String[] texts = {"?", ONE + ";unsure b 0", ONE + ";dance a t", "hall slips 101",
            ONE + ";dance b t;dance c t;dance d t;dance e t;dance f t", "dance a t", "hall slips 0;dance a x"};
        for (int number = 1; number <= 7; number++) {
            Due.due("P4 " + number, Due.hall(x, texts[number - 1]), -1);
            Due.due("P4 " + number, x.fault(), number);
            x.hall(-1);
            Due.due("P4 refused by 2 behind " + number, x.fault(), number);
            x.fits();
            Due.due("P4 other calls behind " + number, x.fault(), number);
        }
        Due.hall(x, ONE);
        Due.due("P4 without one", x.fault(), 0);
        x.hall(1);
        Due.due("P4 refused by 2", x.fault(), 0);
    }

    private static void where() {
        Doc.says(5, "Its place, if the latest call that may be refused was by 4; NONE else.");
        RopeDancers x = new RopeDancers();
        Due.due("P5 no call", x.where(), -1);
        Due.hall(x, "?");
        Due.due("P5 at the first byte", x.where(), 0);
        Due.hall(x, ONE + " ".repeat(600 - ONE.length() - 1) + "?");
        Due.due("P5 at the last byte", x.where(), 599);
        Due.hall(x, ONE + " ".repeat(600 - ONE.length() - 1) + ";");
        Due.due("P5 at the end", x.where(), 600);
        // those that can't be refused by a number between
        x.feed(0, 0, 0, 0, 0);
        x.fault();
        x.size(9);
        x.trouble();
        BoundsActs.led(x, 0);
        Due.due("P5 still", x.where(), 600);
        x.hall(21);
        Due.due("P5 refused by 2", x.where(), -1);
        Due.due("P5 twice told", x.where(), -1);
        Due.hall(x, "?");
        x.upper(0);
        Due.due("P5 refused by 1", x.where(), -1);
        Due.hall(x, "?");
        x.undo();
        Due.due("P5 refused by 6", x.where(), -1);
        Due.hall(x, "?");
        Due.hall(x, ONE);
        Due.due("P5 not refused", x.where(), -1);
        Due.hall(x, "?");
        x.upper(0);
        Due.due("P5 not refused", x.where(), -1);
    }
}
