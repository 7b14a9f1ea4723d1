/** Promises 1 to 5: a new object, feed, hall, fault, where. */
final class HallTest {
    private static final String ONE = "hall slips 0;dance a tur";

    private HallTest() {
    }

    public static void main(String[] args) {
        newObject();
        tapeGrows();
        bytesInOrder();
        hallIsTaken();
        hallIsRefused();
        hallBeginsAnew();
        names();
        cutShort();
        forms();
        otherFaults();
        firstFault();
        faultIsKept();
        whereIsTold();
        Due.end("HallTest");
    }

    private static void newObject() {
        RopeDancers x = new RopeDancers();
        for (int what = 0; what < 7; what++) {
            Due.due("P1 size " + what, x.size(what), 0);
        }
        Due.due("P1 trouble", x.trouble(), 0);
        Due.due("P1 fault", x.fault(), 0);
        Due.due("P1 where", x.where(), -1);
        Due.due(x, "P1 upper", x.upper(0), -100000, 1);
        Due.due(x, "P1 reach", x.reach(0), -1, 1);
        Due.due(x, "P1 fits", x.fits(), -1, 1);
        Due.due(x, "P1 undo", x.undo(), false, 6);
        Due.due(x, "P1 back", x.back(0), false, 1);
    }

    private static void tapeGrows() {
        RopeDancers x = new RopeDancers();
        x.upper(0);
        for (int i = 1; i <= 30; i++) {
            Due.due(x, "P2 feed " + i, x.feed(0, 0, 0, 0, 0), 20 * i, 1);
        }
        Due.due(x, "P2 feed beyond 600", x.feed(0, 0, 0, 0, 0), -1, 1);
        Due.due("P2 none comes", x.size(6), 600);
        Due.due("P2 full tape is read", x.hall(600), -1);
        Due.due("P2 fed again", x.feed(1, 2, 3, 4, 5), 20);

        // a HALL of 600 bytes, its last line at the very end
        StringBuilder text = new StringBuilder(ONE);
        text.append(" ".repeat(600 - 20 - ONE.length())).append(";dance lastlast  ttr");
        RopeDancers y = Due.with(text.toString());
        Due.due("P2 600 bytes", y.figures(1), 3);
        Due.due("P2 600 bytes", y.size(6), 0);
    }

    private static void bytesInOrder() {
        // a text of twenty bytes, each in turn spoilt by a byte above 127
        String text = "hall slips 7;dance a";
        for (int i = 0; i < 20; i++) {
            RopeDancers x = new RopeDancers();
            StringBuilder spoilt = new StringBuilder(text);
            spoilt.setCharAt(i, (char) (130 + i));
            Due.feed(x, spoilt.toString());
            Due.due("P2 byte " + i, x.hall(20), -1);
            Due.due("P2 byte " + i, x.where(), i == 0 ? 0 : i < 5 ? spoiltAt(i, 0, 4) : i < 11 ? spoiltAt(i, 5, 10)
                : i == 12 ? 12 : i < 13 ? i : i < 19 ? spoiltAt(i, 13, 18) : 19);
        }
    }

    /** A spoilt byte within a word cuts it, and the cut word is met first; at its ends it is met itself. */
    private static int spoiltAt(int i, int from, int to) {
        return i > from && i < to ? from : i;
    }

    private static void hallIsTaken() {
        RopeDancers x = new RopeDancers();
        Due.feed(x, "hall slips 100;dance a ttr;dance b r;unsure a 0;unsure a 2;seen a 3 nw ne");
        Due.due(x, "P3 hall", x.hall(73), 2, 0);
        Due.due("P3 tape empty", x.size(6), 0);
        Due.due("P3 slips", x.size(0), 100);
        Due.due("P3 dances", x.size(1), 2);
        Due.due("P3 unsure", x.size(2), 2);
        Due.due("P3 seen", x.size(3), 1);
        Due.due("P3 now", x.upper(0), -1);
        Due.due("P3 now", x.lower(0), 2);

        // only the first n bytes are the text
        RopeDancers y = new RopeDancers();
        Due.feed(y, ONE + "!!!!");
        Due.due(y, "P3 first bytes", y.hall(ONE.length()), 1, 0);
        Due.due("P3 first bytes", y.figures(0), 3);
        Due.feed(y, ONE);
        Due.due("P3 a shorter row", y.hall(ONE.length() - 1), 1);
        Due.due("P3 a shorter row", y.figures(0), 2);

        // tokens need no blanks where they are of two sorts, and many blanks mean nothing else
        RopeDancers z = Due.with("hall slips7;dance a t;dance slips r;dance nw u;unsure a0;seen a1nw se");
        Due.due("P3 tight", z.size(0), 7);
        Due.due("P3 tight", z.size(1), 3);
        Due.due("P3 tight", z.size(2), 1);
        Due.due("P3 tight", z.size(3), 1);
        RopeDancers w = Due.with("   hall   slips  007  ;  dance  abcdefgh   tttttttttttt   ");
        Due.due("P3 wide", w.size(0), 7);
        Due.due("P3 wide", w.upper(0), 12);
        RopeDancers v = Due.with("hall slips 100;dance a t;dance b u;dance c r;dance d tt;dance e uu;"
            + "unsure a 0;unsure b 0;unsure c 0;unsure d 1;seen a 0 nw ne;seen a 1 nw se;seen b 0 nw ne;"
            + "seen b 1 nw sw;seen c 0 se sw;seen e 2 ne nw");
        Due.due("P3 as many as there is room for", v.size(1), 5);
        Due.due("P3 as many as there is room for", v.size(2), 4);
        Due.due("P3 as many as there is room for", v.size(3), 6);
    }

    private static void hallIsRefused() {
        RopeDancers x = new RopeDancers();
        Due.due(x, "P3 nothing to read", x.hall(1), -1, 2);
        Due.due(x, "P3 below 0", x.hall(-1), -1, 2);
        Due.due(x, "P3 the least", x.hall(Integer.MIN_VALUE), -1, 2);
        Due.due(x, "P3 the greatest", x.hall(Integer.MAX_VALUE), -1, 2);
        Due.feed(x, ONE);
        Due.due(x, "P3 more than there is", x.hall(41), -1, 2);
        Due.due("P3 the tape stays", x.size(6), 40);
        Due.due(x, "P3 all there is", x.hall(40), 1, 0);
        Due.due(x, "P3 no bytes", x.hall(0), -1, 4);
        Due.due("P3 no bytes", x.fault(), 1);
        Due.due("P3 no bytes", x.where(), 0);

        x.call(0, 0);
        x.image();
        Due.feed(x, "hall slips 4;dance b ttt;dance");
        Due.due(x, "P3 faulty", x.hall(30), -1, 4);
        Due.due("P3 faulty: the tape is empty", x.size(6), 0);
        Due.due("P3 faulty: the hall stays", x.size(0), 0);
        Due.due("P3 faulty: the hall stays", x.size(1), 1);
        Due.due("P3 faulty: the hall stays", x.figure(0, 1), 1);
        Due.due("P3 faulty: acts stay", x.size(4), 1);
        Due.due("P3 faulty: images stay", x.size(5), 1);
    }

    private static void hallBeginsAnew() {
        RopeDancers x = Due.with("hall slips 9;dance a tt;unsure a 0;seen a 1 nw se");
        x.call(0, 0);
        x.image();
        x.call(0, 2);
        Due.due("P3 anew", Due.hall(x, ONE), 1);
        Due.due("P3 anew: nothing unsure", x.size(2), 0);
        Due.due("P3 anew: nothing seen", x.size(3), 0);
        Due.due("P3 anew: nothing to undo", x.size(4), 0);
        Due.due("P3 anew: no images", x.size(5), 0);
        Due.due(x, "P3 anew: nothing to undo", x.undo(), false, 6);
        Due.due(x, "P3 anew: no images", x.back(0), false, 1);
        Due.due("P3 anew: slips", x.size(0), 0);
        // names of the HALL before aren't told in this one
        Due.due("P3 the same names once more", Due.hall(x, ONE), 1);
        Due.due("P3 the first one is not there again", x.size(2), 0);
        Due.due("P3 the first one is not there again", x.size(3), 0);
        Due.due("P3 the first one is not there again", x.figures(0), 3);
        Due.due("P41 the first one is not there again", x.fits(), 1);

        // nor is what a text told ahead of its FAULT
        Due.due("P3 a fault", Due.hall(x, "hall slips 8;dance b t;dance c r;unsure b 0;unsure c 0;seen b 1 nw se;?"), -1);
        Due.due("P3 behind a fault", Due.hall(x, "hall slips 0;dance b ttt;unsure b 0"), 1);
        Due.due("P3 behind a fault", x.size(0), 0);
        Due.due("P3 behind a fault", x.size(2), 1);
        Due.due("P3 behind a fault", x.size(3), 0);
        Due.due("P3 behind a fault", x.figures(0), 3);
        Due.due("P3 behind a fault, undone ones", Due.hall(x, ONE + ";dance zz t;unsure zz 0;seen zz 1 sw ne"), 2);
        Due.due("P3 a word to the last letter", x.size(2), 1);
    }

    private static void names() {
        RopeDancers x = Due.with("hall slips 0;dance ab t;dance ac tt;dance bb ttt;dance abc tttt;dance a ttttt;"
            + "unsure abc 3;unsure bb 2;unsure ac 1;unsure a 4;seen ab 1 nw se;seen abc 4 nw ne;seen a 5 nw se;seen bb 3 nw se");
        Due.due("P3 names alike in part", x.size(1), 5);
        Due.due("P3 names alike in part", x.judge(), -2);
        Due.due("P3 names alike in part", x.fits(), 2);
        Due.due("P3 names alike in part", x.fitAt(1), 4);
        Due.faulty("hall slips 0;dance ab t;dance ac t;dance |ab t", 3);
        Due.faulty("hall slips 0;dance waltzing t;dance waltzinh t;dance |waltzing r", 3);
        Due.faulty("hall slips 0;dance waltzing t;unsure |waltzinh 0", 2);
        Due.faulty("hall slips 0;dance waltzing t;unsure |zaltzing 0", 2);
        Due.faulty("hall slips 0;dance waltzing t;unsure |waltz 0", 2);
        Due.faulty("hall slips 0;dance waltz t;unsure |waltzing 0", 2);
        Due.faulty("hall slips 0;dance waltz t;unsure |walzt 0", 2);
    }

    /** What stands on THE TAPE behind the first n bytes is no part of the text. */
    private static void cutShort() {
        RopeDancers x = new RopeDancers();
        Due.feed(x, "hall slips 10;dance abc tur;unsure abc 222 nw");
        Due.due("P3 cut within a number", x.hall(40), 1);
        Due.due("P3 cut within a number", x.fitAt(1), 1);
        Due.feed(x, "hall slips 10;dance abc turrr;;");
        Due.due("P3 cut within a row", x.hall(27), 1);
        Due.due("P3 cut within a row", x.figures(0), 3);
        Due.feed(x, "hall slips 10;dance abc turrr;;");
        Due.due("P3 cut ahead of a line", x.hall(29), 1);
        Due.feed(x, "hall slips 10;dance abc turrr;;");
        Due.due("P3 cut behind a semicolon", x.hall(30), -1);
        Due.due("P5 cut behind a semicolon", x.where(), 30);
        Due.feed(x, "hall slips 10;dance abc tur;seen abc 0 nw ne");
        Due.due("P3 cut within a corner", x.hall(43), -1);
        Due.due("P4 cut within a corner", x.fault(), 1);
        Due.due("P5 cut within a corner", x.where(), 42);
    }

    private static void forms() {
        for (String text : new String[] {"|", "   |", "|;", "|7", "|halls", "|slips", "|hal", "|Hall slips 0", "hall|", "hall  |",
            "hall |slip 3", "hall |slipss 3", "hall |3", "hall |;", "hall slips |x", "hall slips|", "hall slips |;",
            "hall slips |1000", "hall slips |0000", "hall slips 0;|", "hall slips 0; |", "hall slips 0|;;", "hall slips 0 |1",
            "hall slips 0 |dance a t", "hall slips 0|,dance a t", "hall slips 0;|foo", "hall slips 0;|nw"}) {
            Due.faulty(text.equals("hall slips 0|;;") ? "hall slips 0;|;" : text, 1);
        }
        String[] behind = {"dance|", "dance |3", "dance |;", "dance |hall t", "dance |dance t", "dance |unsure t", "dance |seen t",
            "dance |abcdefghi t", "dance |abcdefghijkl t", "dance |abcdefghijklm t", "dance b|", "dance b |7", "dance b |;",
            "dance b |ttttttttttttt", "dance b t |t", "dance b t |3", "dance b t;|", "unsure|", "unsure |3", "unsure |hall 0",
            "unsure |seen 0", "unsure |abcdefghi 0", "unsure a|", "unsure a |b", "unsure a |1111", "unsure a 0 |0", "unsure a 0 |nw",
            "seen|", "seen |0", "seen |dance 0 nw ne", "seen a|", "seen a |nw", "seen a 0|", "seen a 0 |0", "seen a 0 |up ne",
            "seen a 0 |nwne", "seen a 0 |n ne", "seen a 0 nw|", "seen a 0 nw |;", "seen a 0 nw |up", "seen a 0 nw |3",
            "seen a 0 nw ne |nw", "seen a 0 nw ne|!", "|\tdance b t", "|\ndance b t", "dance b t|\0", "dance b |T", "dance |\u00e4 t",
            "dance b t|-", "dance |`", "dance |{", "unsure a |/", "unsure a |:", "dance |@", "dance |[", "dance b t|:", "dance b t|<"};
        for (String line : behind) {
            Due.faulty(ONE + ";" + line, 1);
        }
    }

    private static void otherFaults() {
        for (String line : new String[] {"unsure |b 0", "seen |b 0 nw ne", "unsure |aa 0", "seen |slips 0 nw ne", "unsure |abcdefgh 9"}) {
            Due.faulty(ONE + ";" + line, 2);
        }
        for (String line : new String[] {"dance |a t", "dance |a", "dance b r;dance |b t", "unsure a 1;unsure a |1", "unsure a 1;unsure a |001",
            "unsure a 2;unsure a 1;unsure a |2", "seen a 3 nw se;seen a |3 nw se", "seen a 0 nw ne;seen a |0", "seen a 0 nw |nw",
            "seen a 0 se |se", "|hall slips 0", "|hall", "dance b t;|hall slips 3"}) {
            Due.faulty(ONE + ";" + line, 3);
        }
        Due.faulty("hall slips 0;|hall slips 0", 3);
        Due.faulty("hall slips |101", 4);
        Due.faulty("hall slips |999;", 4);
        for (String line : new String[] {"unsure a |3", "unsure a |999", "seen a |4", "seen a |5 nw ne", "dance b r;unsure b |1", "dance b r;seen b |2"}) {
            Due.faulty(ONE + ";" + line, 4);
        }
        Due.faulty(ONE + ";dance b t;dance c t;dance d t;dance e t;|dance a t", 5);
        Due.faulty(ONE + ";dance b t;unsure a 0;unsure a 1;unsure a 2;unsure b 0;|unsure c", 5);
        Due.faulty(ONE + ";dance b ttt;seen a 0 nw ne;seen a 1 nw ne;seen a 2 nw ne;seen a 3 nw ne;seen b 0 nw ne;seen b 1 nw ne;|seen", 5);
        Due.faulty("|dance a t", 6);
        Due.faulty("|dance", 6);
        Due.faulty("  |unsure a 0", 6);
        Due.faulty("|seen a 0 nw ne;hall slips 0", 6);
        Due.faulty("|dance a t;hall slips 0", 6);
        Due.faulty("hall slips 0|", 6);
        Due.faulty("hall slips 0  |", 6);
        for (String row : new String[] {"x", "tux", "hall", "dance", "T".toLowerCase() + "s", "abcdefghijkl", "nw"}) {
            Due.faulty(ONE + ";dance b |" + row, 7);
        }
    }

    private static void firstFault() {
        Due.faulty("hall slips |101;dance a x;dance a t;?", 4);
        Due.faulty(ONE + ";dance |a x;unsure b 0", 3);
        Due.faulty(ONE + ";unsure |b 9;?", 2);
        Due.faulty(ONE + ";seen a |9 up up", 4);
        Due.faulty(ONE + ";seen a 0 ne |ne;seen a 0", 3);
        Due.faulty("hall slips 0;dance |abcdefghi x", 1);
        Due.faulty("hall slips 0;dance a |tx?", 7);
        // a dance with a FAULT isn't told
        RopeDancers x = new RopeDancers();
        Due.due("P4 no dance by a fault", Due.hall(x, "hall slips 0;dance a tx"), -1);
        Due.due("P4 no dance by a fault", x.size(1), 0);
    }

    private static void faultIsKept() {
        RopeDancers x = new RopeDancers();
        Due.hall(x, "hall slips 101");
        Due.due("P4 fault", x.fault(), 4);
        x.hall(-1);
        Due.due("P4 kept by a hall refused by 2", x.fault(), 4);
        Due.due("P5 not where then", x.where(), -1);
        x.upper(0);
        Due.due("P4 kept by other calls", x.fault(), 4);
        Due.hall(x, ONE);
        Due.due("P4 without one", x.fault(), 0);
        x.hall(1);
        Due.due("P4 without one still", x.fault(), 0);
    }

    private static void whereIsTold() {
        RopeDancers x = Due.with(ONE);
        Due.due("P5 where without a fault", x.where(), -1);
        Due.hall(x, "hall slips 0;dance a");
        Due.due("P5 where", x.where(), 20);
        x.feed(1, 2, 3, 4, 5);
        x.size(0);
        x.fault();
        x.trouble();
        Due.due("P5 where, calls that can't be refused between", x.where(), 20);
        x.upper(0);
        Due.due("P5 where behind a call not refused", x.where(), -1);
        x.hall(19);
        Due.due("P5 where", x.where(), 0);
        x.upper(9);
        Due.due("P5 where behind one refused by 1", x.where(), -1);
    }
}
