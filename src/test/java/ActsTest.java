/** Promises 58 to 64: call, flip, reset, join, undo, image, back. */
final class ActsTest {
    private static final int[] WRONG = {-1, 5, Integer.MIN_VALUE, Integer.MAX_VALUE};

    private ActsTest() {
    }

    /** 2 by 1, 1 by 2, 0 by 1, 1 by 0, 8 by 5. */
    private static RopeDancers fresh() {
        return Due.with("hall slips 50;dance a tt;dance b ttrt;dance c tu;dance d r;dance e ttrtttrtt");
    }

    public static void main(String[] args) {
        calls();
        flips();
        resets();
        joins();
        bound();
        undoes();
        sixteen();
        images();
        goesBack();
        wrong();
        Due.end("ActsTest");
    }

    private static void calls() {
        RopeDancers x = fresh();
        Due.due(x, "P58 twist", x.call(0, 0), 3, 0);
        Due.is(x, "P58 twist", 0, 3, 1);
        Due.due(x, "P58 turn", x.call(0, 2), 3, 0);
        Due.is(x, "P58 turn", 0, -1, 3);
        Due.due(x, "P58 untwist", x.call(0, 1), 4, 0);
        Due.is(x, "P58 untwist", 0, -4, 3);
        Due.due(x, "P58 turn", x.call(0, 2), 4, 0);
        Due.is(x, "P58 turn of one below 0", 0, 3, 4);
        Due.due(x, "P58 turn of 0 by 1", x.call(2, 2), 0, 0);
        Due.is(x, "P58 turn of 0 by 1", 2, 1, 0);
        Due.due(x, "P58 twist of 1 by 0", x.call(3, 0), 0, 0);
        Due.is(x, "P58 twist of 1 by 0", 3, 1, 0);
        Due.due(x, "P58 untwist of 1 by 0", x.call(3, 1), 0, 0);
        Due.is(x, "P58 untwist of 1 by 0", 3, 1, 0);
        Due.due(x, "P58 turn of 1 by 0", x.call(3, 2), 0, 0);
        Due.is(x, "P58 turn of 1 by 0", 3, 0, 1);
        Due.due("P58 all are acts, though one stays", x.size(4), 8);
        Due.is(x, "P58 others stay", 1, 1, 2);
        Due.is(x, "P58 others stay", 4, 8, 5);
        for (int figure : new int[] {-1, 3, Integer.MIN_VALUE, Integer.MAX_VALUE}) {
            Due.due(x, "P58 no figure " + figure, x.call(0, figure), -1, 2);
            Due.due(x, "P58 1 ahead of 2", x.call(5, figure), -1, 1);
        }
        Due.due("P58 refused ones are no acts", x.size(4), 8);
        Due.due("P12 the ROW stays", x.figures(0), 2);
    }

    private static void flips() {
        RopeDancers x = fresh();
        Due.due(x, "P59 flip", x.flip(0), true, 0);
        Due.is(x, "P59 flip", 0, -2, 1);
        Due.due(x, "P59 flip back", x.flip(0), true, 0);
        Due.is(x, "P59 flip back", 0, 2, 1);
        Due.due(x, "P59 flip", x.flip(4), true, 0);
        Due.is(x, "P59 flip", 4, -8, 5);
        Due.due("P59 acts", x.size(4), 3);
        Due.due(x, "P59 0 by 1", x.flip(2), false, 5);
        Due.due(x, "P59 1 by 0", x.flip(3), false, 5);
        Due.is(x, "P59 1 by 0 stays", 3, 1, 0);
        Due.due("P59 refused ones are no acts", x.size(4), 3);
    }

    private static void resets() {
        RopeDancers x = fresh();
        Due.due(x, "P60 reset", x.reset(0), true, 0);
        Due.is(x, "P60 reset", 0, 0, 1);
        Due.due(x, "P60 once more", x.reset(0), false, 5);
        Due.due(x, "P60 0 by 1", x.reset(2), false, 5);
        Due.due(x, "P60 1 by 0", x.reset(3), true, 0);
        Due.is(x, "P60 1 by 0", 3, 0, 1);
        Due.due(x, "P60 reset", x.reset(4), true, 0);
        Due.is(x, "P60 reset", 4, 0, 1);
        Due.is(x, "P60 others stay", 1, 1, 2);
        Due.due("P60 acts", x.size(4), 3);
    }

    private static void joins() {
        RopeDancers x = fresh();
        // 1 by 2 and 2
        Due.due(x, "P61 join", x.join(1, 0), 4, 0);
        Due.is(x, "P61 join", 1, 5, 2);
        Due.is(x, "P61 the whole stays", 0, 2, 1);
        Due.due(x, "P61 join to 0 by 1", x.join(2, 0), 2, 0);
        Due.is(x, "P61 join to 0 by 1", 2, 2, 1);
        x.flip(0);
        // 8 by 5 and -2
        Due.due(x, "P61 join below 0", x.join(4, 0), 4, 0);
        Due.is(x, "P61 join below 0", 4, -2, 5);
        Due.due(x, "P61 to 0 by 1", x.join(2, 0), 0, 0);
        Due.is(x, "P61 to 0 by 1", 2, 0, 1);
        Due.due("P61 acts", x.size(4), 5);
        Due.due(x, "P61 no whole", x.join(0, 1), -1, 5);
        Due.due(x, "P61 is 0", x.join(0, 2), -1, 5);
        Due.due(x, "P61 1 by 0 is no whole", x.join(0, 3), -1, 5);
        Due.due(x, "P61 to 1 by 0", x.join(3, 0), -1, 5);
        Due.due(x, "P61 unlike", x.join(0, 0), -1, 1);
        Due.due(x, "P61 unlike", x.join(3, 3), -1, 1);
        Due.is(x, "P61 refused", 0, -2, 1);
        Due.due("P61 refused ones are no acts", x.size(4), 5);
        // the ROW that a TANGLE once was is not added
        Due.due("P61 by the TANGLE now", x.join(1, 0), 2);
        Due.is(x, "P61 by the TANGLE now", 1, 1, 2);
    }

    private static void bound() {
        RopeDancers x = ComeTest.at9999();
        Due.is(x, "as far as it goes", 0, 9999, 1);
        int acts = x.size(4);
        Due.due(x, "P58 twist above", x.call(0, 0), -1, 3);
        Due.due(x, "P61 join above", x.join(0, 1), -1, 3);
        Due.due(x, "P61 join above", x.join(0, 2), -1, 3);
        Due.is(x, "P58 it stays", 0, 9999, 1);
        Due.due("P58 no acts", x.size(4), acts);
        x.flip(0);
        Due.due(x, "P58 untwist below", x.call(0, 1), -1, 3);
        Due.due(x, "P58 twist", x.call(0, 0), 9998, 0);
        x.call(0, 1);
        x.flip(1);
        Due.due(x, "P61 join below", x.join(0, 1), -1, 3);
        Due.due(x, "P58 turn", x.call(0, 2), 9999, 0);
        Due.is(x, "P58 turn", 0, 1, 9999);
        Due.due(x, "P58 twist above", x.call(0, 0), -1, 3);
        Due.due(x, "P58 untwist", x.call(0, 1), 9999, 0);
        Due.is(x, "P58 untwist", 0, -9998, 9999);
        Due.due(x, "P61 join above", x.join(0, 2), -1, 3);
        Due.due(x, "P58 turn", x.call(0, 2), 9999, 0);
        Due.is(x, "P58 turn", 0, 9999, 9998);
        // exactly to 9999 by a join
        RopeDancers y = ComeTest.at9999();
        y.undo();
        Due.due(y, "P61 to 9999", y.join(0, 2), 9999, 0);
        y.undo();
        y.call(2, 0);
        Due.due(y, "P61 to 10000", y.join(0, 2), -1, 3);
    }

    private static void undoes() {
        RopeDancers x = fresh();
        Due.due(x, "P62 nothing", x.undo(), false, 6);
        x.call(0, 0);
        x.flip(1);
        x.reset(4);
        x.join(2, 0);
        Due.due(x, "P62 join", x.undo(), true, 0);
        Due.is(x, "P62 join", 2, 0, 1);
        Due.is(x, "P62 reset not yet", 4, 0, 1);
        Due.due(x, "P62 reset", x.undo(), true, 0);
        Due.is(x, "P62 reset", 4, 8, 5);
        Due.due(x, "P62 flip", x.undo(), true, 0);
        Due.is(x, "P62 flip", 1, 1, 2);
        Due.is(x, "P62 call not yet", 0, 3, 1);
        Due.due("P62 one left", x.size(4), 1);
        Due.due(x, "P62 call", x.undo(), true, 0);
        Due.is(x, "P62 call", 0, 2, 1);
        Due.due(x, "P62 nothing more", x.undo(), false, 6);
        Due.due("P62 nothing more", x.size(4), 0);
        // what is undone is gone; a new act comes in its place
        x.call(0, 2);
        x.undo();
        x.call(0, 0);
        x.undo();
        Due.is(x, "P62 once more", 0, 2, 1);
        Due.due(x, "P62 nothing more", x.undo(), false, 6);
        // an act that changes nothing is one to undo
        x.call(0, 0);
        x.call(3, 0);
        x.undo();
        Due.is(x, "P62 the one that changed nothing", 0, 3, 1);
        x.undo();
        Due.is(x, "P62 then the other", 0, 2, 1);
    }

    private static void sixteen() {
        RopeDancers x = fresh();
        for (int i = 0; i < 20; i++) {
            x.call(0, 0);
            Due.due("P62 kept " + i, x.size(4), Math.min(i + 1, 16));
        }
        for (int i = 1; i <= 16; i++) {
            Due.due(x, "P62 undo " + i, x.undo(), true, 0);
            Due.is(x, "P62 undo " + i, 0, 22 - i, 1);
        }
        Due.due(x, "P62 the seventeenth", x.undo(), false, 6);
        Due.is(x, "P62 the seventeenth", 0, 6, 1);
        // of several dances the eldest acts go first
        RopeDancers y = fresh();
        y.flip(1);
        y.reset(0);
        for (int i = 0; i < 15; i++) {
            y.call(4, 2);
        }
        for (int i = 0; i < 16; i++) {
            y.undo();
        }
        Due.is(y, "P62 the sixteenth", 0, 2, 1);
        Due.is(y, "P62 the sixteenth", 4, 8, 5);
        Due.due(y, "P62 forgotten", y.undo(), false, 6);
        Due.is(y, "P62 forgotten", 1, -1, 2);
    }

    private static void images() {
        RopeDancers z = new RopeDancers();
        Due.due(z, "P63 no HALL", z.image(), -1, 1);
        Due.due("P63 no HALL", z.size(5), 0);
        RopeDancers x = fresh();
        for (int i = 0; i < 3; i++) {
            Due.due(x, "P63 image " + i, x.image(), i, 0);
            Due.due("P63 images", x.size(5), i + 1);
        }
        Due.due(x, "P63 no room", x.image(), -1, 3);
        Due.due("P63 no room", x.size(5), 3);
        Due.due(x, "P64 back", x.back(2), true, 0);
        Due.due(x, "P63 they stay", x.image(), -1, 3);
        Due.due("P63 an image is no act", x.size(4), 0);
    }

    private static void goesBack() {
        RopeDancers x = fresh();
        x.image();
        x.call(0, 2);
        x.reset(4);
        x.image();
        x.flip(1);
        x.call(3, 2);
        x.image();
        x.call(2, 0);
        Due.due("P64 acts ahead", x.size(4), 5);
        Due.due(x, "P64 back to 1", x.back(1), true, 0);
        Due.is(x, "P64 back to 1", 0, -1, 2);
        Due.is(x, "P64 back to 1", 1, 1, 2);
        Due.is(x, "P64 back to 1", 2, 0, 1);
        Due.is(x, "P64 back to 1", 3, 1, 0);
        Due.is(x, "P64 back to 1", 4, 0, 1);
        Due.due(x, "P64 nothing can be undone", x.undo(), false, 6);
        Due.due("P64 nothing can be undone", x.size(4), 0);
        Due.due("P64 images stay", x.size(5), 3);
        Due.due(x, "P64 on to 2", x.back(2), true, 0);
        Due.is(x, "P64 on to 2", 1, -1, 2);
        Due.is(x, "P64 on to 2", 3, 0, 1);
        Due.is(x, "P64 on to 2", 2, 0, 1);
        Due.due(x, "P64 back to 0", x.back(0), true, 0);
        Due.is(x, "P64 back to 0", 0, 2, 1);
        Due.is(x, "P64 back to 0", 1, 1, 2);
        Due.is(x, "P64 back to 0", 4, 8, 5);
        x.call(0, 0);
        x.undo();
        Due.is(x, "P64 acts behind it", 0, 2, 1);
        x.call(1, 0);
        Due.due(x, "P64 twice to one", x.back(0), true, 0);
        Due.is(x, "P64 twice to one", 1, 1, 2);
        for (int image : new int[] {-1, 3, Integer.MIN_VALUE, Integer.MAX_VALUE}) {
            x.call(0, 0);
            Due.due(x, "P64 none such " + image, x.back(image), false, 1);
        }
        Due.is(x, "P64 none such", 0, 6, 1);
        Due.due("P64 none such: acts stay", x.size(4), 4);
        RopeDancers y = fresh();
        y.image();
        Due.due(y, "P64 not one yet to come", y.back(1), false, 1);
    }

    private static void wrong() {
        RopeDancers x = fresh();
        RopeDancers y = new RopeDancers();
        for (int d : WRONG) {
            Due.due(x, "P58 call " + d, x.call(d, 0), -1, 1);
            Due.due(x, "P59 flip " + d, x.flip(d), false, 1);
            Due.due(x, "P60 reset " + d, x.reset(d), false, 1);
            Due.due(x, "P61 join " + d, x.join(d, 0), -1, 1);
            Due.due(x, "P61 join by " + d, x.join(0, d), -1, 1);
        }
        Due.due(y, "P58 no HALL", y.call(0, 0), -1, 1);
        Due.due(y, "P59 no HALL", y.flip(0), false, 1);
        Due.due(y, "P60 no HALL", y.reset(0), false, 1);
        Due.due(y, "P61 no HALL", y.join(0, 1), -1, 1);
        Due.due(y, "P62 no HALL", y.undo(), false, 6);
        Due.due(y, "P64 no HALL", y.back(0), false, 1);
    }
}
