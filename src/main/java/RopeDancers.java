import java.util.NoSuchElementException;

/** Four hold the ends of two ropes and dance figures; each tangle of the ropes is a fraction. */
public final class RopeDancers {
    public static final int NONE = -1;

    private static final int NO_UPPER = -100000;
    private static final int NO_PAY = -100;
    private static final int NOT_SO = -2;

    // FIGURES
    private static final int TWIST = 0;
    private static final int UNTWIST = 1;
    private static final int TURN = 2;

    // TROUBLE
    private static final int FINE = 0;
    private static final int NO_SUCH = 1;
    private static final int BAD_NUMBER = 2;
    private static final int NO_ROOM = 3;
    private static final int FAULTY = 4;
    private static final int UNFIT = 5;
    private static final int NOTHING = 6;

    private static final int GREATEST = 9999;
    private static final int MOST_DANCES = 5;
    private static final int MOST_CALLS = 7;
    private static final int MOST_TURNS = 8;
    private static final int MOST_SLIPS = 8;
    private static final int MOST_DANCED = 60;
    private static final int GREATEST_SEED = 65536;
    private static final int MOST_RUNGS = 200;
    private static final int MOST_KNOT = 200;
    private static final int MOST_COLOURS = 99;
    private static final int MOST_PRIDE = 9;
    /** Far above the steps of any loop whose end the document doesn't tell. */
    private static final int MANY = 1000000;

    private final Tape tape;
    private Hall present;
    private Hall spare;
    private final Past past;
    private final Tangle thought;
    private final Product product;
    private final Product otherProduct;
    private final Ways ways;
    private final Ladder ladder;
    private final Chance chance;
    private int latest;

    public RopeDancers() {
        tape = new Tape();
        present = new Hall();
        spare = new Hall();
        past = new Past();
        thought = new Tangle();
        product = new Product();
        otherProduct = new Product();
        ways = new Ways();
        ladder = new Ladder();
        chance = new Chance();
    }

    // ---- the hall

    public int feed(int a, int b, int c, int d, int e) {
        if (!tape.hasRoom()) {
            return NONE;
        }
        tape.take(a);
        tape.take(b);
        tape.take(c);
        tape.take(d);
        tape.take(e);
        return tape.held;
    }

    public int hall(int n) {
        if (n < 0 || n > tape.held) {
            return refuse(BAD_NUMBER, NONE);
        }
        if (!tape.read(spare, n)) {
            return refuse(FAULTY, NONE);
        }
        Hall gone = present;
        present = spare;
        spare = gone;
        present.begin();
        past.forgetAll();
        return accept(present.danceCount);
    }

    public int fault() {
        return tape.faultNumber;
    }

    public int where() {
        return latest == FAULTY ? tape.faultPlace : NONE;
    }

    // ---- a tangle

    public int upper(int d) {
        Dance dance = present.danceAt(d);
        if (dance == null) {
            return refuse(NO_SUCH, NO_UPPER);
        }
        return accept(dance.now.over);
    }

    public int lower(int d) {
        Dance dance = present.danceAt(d);
        if (dance == null) {
            return refuse(NO_SUCH, NONE);
        }
        return accept(dance.now.under);
    }

    public int end(int d, int corner) {
        Dance dance = present.danceAt(d);
        if (dance == null || !isCorner(corner)) {
            return refuse(NO_SUCH, NONE);
        }
        return accept(dance.now.goalOf(corner));
    }

    public int parts(int d) {
        Dance dance = present.danceAt(d);
        if (dance == null) {
            return refuse(NO_SUCH, NONE);
        }
        return accept(dance.now.wholeParts());
    }

    public int part(int d, int i) {
        Dance dance = present.danceAt(d);
        if (dance == null || i < 0 || i >= dance.now.wholeParts()) {
            return refuse(NO_SUCH, NONE);
        }
        return accept(dance.now.wholePart(i));
    }

    public int crossings(int d) {
        Dance dance = present.danceAt(d);
        if (dance == null) {
            return refuse(NO_SUCH, NONE);
        }
        return accept(dance.now.crossed());
    }

    // ---- its row

    public int figures(int d) {
        Dance dance = present.danceAt(d);
        if (dance == null) {
            return refuse(NO_SUCH, NONE);
        }
        return accept(dance.count);
    }

    public int figure(int d, int i) {
        Dance dance = present.danceAt(d);
        if (dance == null || i < 0 || i >= dance.count) {
            return refuse(NO_SUCH, NONE);
        }
        return accept(dance.figureAt(i));
    }

    public int upperAfter(int d, int n) {
        int bad = walkTrouble(d, n);
        return bad == FINE ? accept(thought.over) : refuse(bad, NO_UPPER);
    }

    public int lowerAfter(int d, int n) {
        int bad = walkTrouble(d, n);
        return bad == FINE ? accept(thought.under) : refuse(bad, NONE);
    }

    public int mostAt(int d) {
        Dance dance = present.danceAt(d);
        if (dance == null) {
            return refuse(NO_SUCH, NONE);
        }
        int first = 0;
        int most = NONE;
        for (int n = 0; n <= dance.count; n++) {
            dance.walk(n, 0, thought);
            int crossed = thought.crossed();
            if (crossed > most) {
                most = crossed;
                first = n;
            }
        }
        return accept(first);
    }

    public int goesFirst(int d, int corner, int to) {
        Dance dance = present.danceAt(d);
        if (dance == null || !isRope(corner, to)) {
            return refuse(NO_SUCH, NONE);
        }
        for (int n = 0; n <= dance.count; n++) {
            dance.walk(n, 0, thought);
            if (thought.goalOf(corner) == to) {
                return accept(n);
            }
        }
        return accept(NOT_SO);
    }

    public int again(int d) {
        Dance dance = present.danceAt(d);
        if (dance == null) {
            return refuse(NO_SUCH, NONE);
        }
        thought.put(0, 1);
        for (int times = 1; times <= MOST_DANCED; times++) {
            if (!dance.danceWithin(thought)) {
                return accept(NOT_SO);
            }
            if (thought.isUntied()) {
                return accept(times);
            }
        }
        return accept(NOT_SO);
    }

    public int trace(int d) {
        Dance dance = present.danceAt(d);
        if (dance == null) {
            return refuse(NO_SUCH, NONE);
        }
        product.follow(dance);
        return accept(Math.abs(product.a + product.d));
    }

    public int sameDance(int d, int other) {
        Dance dance = present.danceAt(d);
        Dance otherDance = present.danceAt(other);
        if (dance == null || otherDance == null) {
            return refuse(NO_SUCH, NONE);
        }
        product.follow(dance);
        otherProduct.follow(otherDance);
        return accept(product.isSame(otherProduct) ? 1 : 0);
    }

    // ---- untied

    public int untie(int d) {
        Dance dance = present.danceAt(d);
        if (dance == null) {
            return refuse(NO_SUCH, NONE);
        }
        return accept(untieBy(dance, MANY));
    }

    public int turnsOf(int d) {
        Dance dance = present.danceAt(d);
        if (dance == null) {
            return refuse(NO_SUCH, NONE);
        }
        thought.copy(dance.now);
        int turns = 0;
        for (int i = 0; i < MANY && !thought.isUntied(); i++) {
            int figure = thought.untying();
            if (figure == TURN) {
                turns++;
            }
            thought.step(figure);
        }
        return accept(turns);
    }

    public int untieAt(int d, int i) {
        Dance dance = present.danceAt(d);
        if (dance == null || i < 0 || untieBy(dance, i) < i || thought.isUntied()) {
            return refuse(NO_SUCH, NONE);
        }
        return accept(thought.untying());
    }

    public int widest(int d) {
        Dance dance = present.danceAt(d);
        if (dance == null) {
            return refuse(NO_SUCH, NONE);
        }
        thought.copy(dance.now);
        int greatest = thought.under;
        for (int i = 0; i < MANY && !thought.isUntied(); i++) {
            thought.step(thought.untying());
            greatest = Math.max(greatest, thought.under);
        }
        return accept(greatest);
    }

    // ---- from one to another

    public int come(int d, int upper, int lower) {
        int bad = goalTrouble(d, upper, lower);
        if (bad != FINE) {
            return refuse(bad, NONE);
        }
        int row = rowFrom(d, upper, lower);
        return accept(row == NOT_SO ? NOT_SO : digits(row));
    }

    public int comeRow(int d, int upper, int lower) {
        int bad = goalTrouble(d, upper, lower);
        if (bad != FINE) {
            return refuse(bad, NONE);
        }
        return accept(rowFrom(d, upper, lower));
    }

    public int reach(int n) {
        int bad = numberTrouble(n, 0, MOST_CALLS);
        return bad == FINE ? accept(ways.spread(n)) : refuse(bad, NONE);
    }

    public int apart(int d, int other) {
        Dance dance = present.danceAt(d);
        Dance otherDance = present.danceAt(other);
        if (dance == null || otherDance == null) {
            return refuse(NO_SUCH, NONE);
        }
        int there = dance.now.over * otherDance.now.under;
        int back = otherDance.now.over * dance.now.under;
        return accept(Math.abs(there - back));
    }

    public int upperBetween(int d, int other) {
        int bad = betweenTrouble(d, other);
        return bad == FINE ? accept(thought.over) : refuse(bad, NO_UPPER);
    }

    public int lowerBetween(int d, int other) {
        int bad = betweenTrouble(d, other);
        return bad == FINE ? accept(thought.under) : refuse(bad, NONE);
    }

    public int rungs(int n) {
        int bad = numberTrouble(n, 1, MOST_RUNGS);
        if (bad != FINE) {
            return refuse(bad, NONE);
        }
        return accept(ladder.climb(n, MANY) + 1);
    }

    public int rungUpper(int n, int i) {
        int bad = rungTrouble(n, i);
        return bad == FINE ? accept(ladder.over) : refuse(bad, NONE);
    }

    public int rungLower(int n, int i) {
        int bad = rungTrouble(n, i);
        return bad == FINE ? accept(ladder.under) : refuse(bad, NONE);
    }

    // ---- closed

    public int knot(int d, boolean down) {
        Dance dance = present.danceAt(d);
        if (dance == null) {
            return refuse(NO_SUCH, NONE);
        }
        return accept(Rings.numberOf(dance.now, down));
    }

    public int rings(int d, boolean down) {
        Dance dance = present.danceAt(d);
        if (dance == null) {
            return refuse(NO_SUCH, NONE);
        }
        return accept(Rings.numberOf(dance.now, down) % 2 == 0 ? 2 : 1);
    }

    public int colours(int d, boolean down, int m) {
        Dance dance = present.danceAt(d);
        if (dance == null) {
            return refuse(NO_SUCH, NONE);
        }
        if (m < 2 || m > MOST_COLOURS) {
            return refuse(BAD_NUMBER, NONE);
        }
        int knot = Rings.numberOf(dance.now, down);
        return accept(m * (int) shared(m, knot));
    }

    public int beside(int d, int other) {
        Dance dance = present.danceAt(d);
        Dance otherDance = present.danceAt(other);
        if (dance == null || otherDance == null) {
            return refuse(NO_SUCH, NONE);
        }
        int there = dance.now.over * otherDance.now.under;
        int back = otherDance.now.over * dance.now.under;
        return accept(Math.abs(there + back));
    }

    public int alike(int d, int other) {
        return compareRings(d, other, 1);
    }

    public int mirrored(int d, int other) {
        return compareRings(d, other, -1);
    }

    public int kinds(int k, boolean mirror) {
        int bad = numberTrouble(k, 1, MOST_KNOT);
        return bad == FINE ? accept(Rings.sorts(k, mirror)) : refuse(bad, NONE);
    }

    // ---- unsure figures

    public int fits() {
        if (!hasHall()) {
            return refuse(NO_SUCH, NONE);
        }
        return accept(Integer.bitCount(present.fitting(thought)));
    }

    public int fitAt(int i) {
        if (!hasHall() || i < 0) {
            return refuse(NO_SUCH, NONE);
        }
        int fitting = present.fitting(thought);
        int before = 0;
        for (int set = 0; set < present.sets(); set++) {
            if (!isIn(fitting, set)) {
                continue;
            }
            if (before == i) {
                return accept(set);
            }
            before++;
        }
        return refuse(NO_SUCH, NONE);
    }

    public int could() {
        if (!hasHall()) {
            return refuse(NO_SUCH, NONE);
        }
        int fitting = present.fitting(thought);
        int some = 0;
        for (int set = 0; set < present.sets(); set++) {
            if (isIn(fitting, set)) {
                some |= set;
            }
        }
        return accept(some);
    }

    public int surely() {
        if (!hasHall()) {
            return refuse(NO_SUCH, NONE);
        }
        int fitting = present.fitting(thought);
        if (fitting == 0) {
            return accept(0);
        }
        int all = present.sets() - 1;
        for (int set = 0; set < present.sets(); set++) {
            if (isIn(fitting, set)) {
                all &= set;
            }
        }
        return accept(all);
    }

    public int ask() {
        if (!hasHall()) {
            return refuse(NO_SUCH, NONE);
        }
        return accept(present.bestAsked(present.fitting(thought)));
    }

    public int askLeaves() {
        if (!hasHall()) {
            return refuse(NO_SUCH, NONE);
        }
        int fitting = present.fitting(thought);
        int asked = present.bestAsked(fitting);
        return accept(asked == NOT_SO ? NOT_SO : present.leftBy(fitting, asked));
    }

    public int judge() {
        if (!hasHall()) {
            return refuse(NO_SUCH, NONE);
        }
        for (int s = 0; s < present.seenCount; s++) {
            if (!present.wentSo(s, 0, thought)) {
                return accept(s);
            }
        }
        return accept(NOT_SO);
    }

    // ---- by turns

    public int callers(int d, int n) {
        int bad = turnsTrouble(d, n);
        if (bad != FINE) {
            return refuse(bad, NONE);
        }
        int best = Ways.bestFor(thought.over, thought.under, n);
        if (best == Ways.WON) {
            return accept(1);
        }
        return accept(best == Ways.LOST ? 2 : 0);
    }

    public int callsBy(int d, int n) {
        int bad = turnsTrouble(d, n);
        if (bad != FINE) {
            return refuse(bad, NONE);
        }
        int best = Ways.bestFor(thought.over, thought.under, n);
        for (int figure = TWIST; n > 0 && figure <= TURN; figure++) {
            if (Ways.bestBy(figure, thought.over, thought.under, n) == best) {
                return accept(figure);
            }
        }
        return accept(NOT_SO);
    }

    public int bows(int pride, boolean one, boolean other, boolean ofOther) {
        int bad = numberTrouble(pride, 0, MOST_PRIDE);
        if (bad != FINE) {
            return refuse(bad, NO_PAY);
        }
        return accept(ofOther ? pay(pride, other, one) : pay(pride, one, other));
    }

    public int rests(int pride) {
        int bad = numberTrouble(pride, 0, MOST_PRIDE);
        if (bad != FINE) {
            return refuse(bad, NONE);
        }
        int count = 0;
        for (int pair = 0; pair < 4; pair++) {
            if (isRest(pride, pair >= 2, pair % 2 == 1)) {
                count++;
            }
        }
        return accept(count);
    }

    public int rest(int pride) {
        int bad = numberTrouble(pride, 0, MOST_PRIDE);
        if (bad != FINE) {
            return refuse(bad, NONE);
        }
        for (int pair = 0; pair < 4; pair++) {
            if (isRest(pride, pair >= 2, pair % 2 == 1)) {
                return accept(pair / 2 * 10 + pair % 2);
            }
        }
        return accept(NOT_SO);
    }

    // ---- slips

    public long odds(int d, int n, int corner, int to, boolean lower) {
        Dance dance = present.danceAt(d);
        if (dance == null || !isRope(corner, to)) {
            return refuse(NO_SUCH, NONE);
        }
        chance.measure(Chance.GOES, corner, to);
        return likely(dance, n, lower);
    }

    public long untied(int d, int n, boolean lower) {
        Dance dance = present.danceAt(d);
        if (dance == null) {
            return refuse(NO_SUCH, NONE);
        }
        chance.measure(Chance.UNTIED, NONE, NONE);
        return likely(dance, n, lower);
    }

    public long mean(int d, int n, boolean lower) {
        Dance dance = present.danceAt(d);
        if (dance == null) {
            return refuse(NO_SUCH, NONE);
        }
        chance.measure(Chance.CROSSED, NONE, NONE);
        return likely(dance, n, lower);
    }

    public int drawnUpper(int d, int seed, int n) {
        int bad = drawTrouble(d, seed, n);
        return bad == FINE ? accept(thought.over) : refuse(bad, NO_UPPER);
    }

    public int drawnLower(int d, int seed, int n) {
        int bad = drawTrouble(d, seed, n);
        return bad == FINE ? accept(thought.under) : refuse(bad, NONE);
    }

    // ---- acts

    public int call(int d, int figure) {
        Dance dance = present.danceAt(d);
        if (dance == null) {
            return refuse(NO_SUCH, NONE);
        }
        if (figure < TWIST || figure > TURN) {
            return refuse(BAD_NUMBER, NONE);
        }
        Tangle now = dance.now;
        int over = Tangle.overBy(figure, now.over, now.under);
        int under = Tangle.underBy(figure, now.over, now.under);
        if (Tangle.isTooGreat(over, under)) {
            return refuse(NO_ROOM, NONE);
        }
        become(d, now, over, under);
        return accept(now.crossed());
    }

    public boolean flip(int d) {
        Dance dance = present.danceAt(d);
        if (dance == null) {
            return deny(NO_SUCH);
        }
        Tangle now = dance.now;
        if (now.over == 0 || now.under == 0) {
            return deny(UNFIT);
        }
        become(d, now, -now.over, now.under);
        return grant();
    }

    public boolean reset(int d) {
        Dance dance = present.danceAt(d);
        if (dance == null) {
            return deny(NO_SUCH);
        }
        if (dance.now.isUntied()) {
            return deny(UNFIT);
        }
        become(d, dance.now, 0, 1);
        return grant();
    }

    public int join(int d, int other) {
        Dance dance = present.danceAt(d);
        Dance otherDance = present.danceAt(other);
        if (dance == null || otherDance == null || d == other) {
            return refuse(NO_SUCH, NONE);
        }
        Tangle now = dance.now;
        Tangle whole = otherDance.now;
        if (whole.under != 1 || whole.over == 0 || now.under == 0) {
            return refuse(UNFIT, NONE);
        }
        int over = now.over + whole.over * now.under;
        if (Tangle.isTooGreat(over, now.under)) {
            return refuse(NO_ROOM, NONE);
        }
        become(d, now, over, now.under);
        return accept(now.crossed());
    }

    public boolean undo() {
        if (past.actCount == 0) {
            return deny(NOTHING);
        }
        past.takeBack(present);
        return grant();
    }

    public int image() {
        if (!hasHall()) {
            return refuse(NO_SUCH, NONE);
        }
        if (past.imageCount >= Past.MOST_IMAGES) {
            return refuse(NO_ROOM, NONE);
        }
        past.draw(present);
        return accept(past.imageCount - 1);
    }

    public boolean back(int image) {
        if (image < 0 || image >= past.imageCount) {
            return deny(NO_SUCH);
        }
        past.goBack(image, present);
        return grant();
    }

    // ---- what is told

    public int led(int i) throws NoSuchElementException {
        int before = 0;
        for (int d = 0; d < present.danceCount; d++) {
            Dance dance = present.danceAt(d);
            if (dance == null || !dance.now.isUntied()) {
                continue;
            }
            if (before == i) {
                return d;
            }
            before++;
        }
        throw new NoSuchElementException();
    }

    public int size(int what) {
        switch (what) {
            case 0:
                return present.slips;
            case 1:
                return present.danceCount;
            case 2:
                return present.unsureCount;
            case 3:
                return present.seenCount;
            case 4:
                return past.actCount;
            case 5:
                return past.imageCount;
            case 6:
                return tape.held;
            default:
                return NONE;
        }
    }

    public int trouble() {
        return latest;
    }

    // ---- answers and their trouble

    private int accept(int answer) {
        latest = FINE;
        return answer;
    }

    private int refuse(int trouble, int answer) {
        latest = trouble;
        return answer;
    }

    private boolean grant() {
        latest = FINE;
        return true;
    }

    private boolean deny(int trouble) {
        latest = trouble;
        return false;
    }

    private boolean hasHall() {
        return present.danceCount > 0;
    }

    /** Of a call that asks for a HALL and a number within bounds. */
    private int numberTrouble(int n, int least, int most) {
        if (!hasHall()) {
            return NO_SUCH;
        }
        return n < least || n > most ? BAD_NUMBER : FINE;
    }

    /** Leaves in thought what a TANGLE is behind the first n figures. */
    private int walkTrouble(int d, int n) {
        Dance dance = present.danceAt(d);
        if (dance == null) {
            return NO_SUCH;
        }
        if (n < 0 || n > dance.count) {
            return BAD_NUMBER;
        }
        dance.walk(n, 0, thought);
        return FINE;
    }

    private int goalTrouble(int d, int over, int under) {
        if (present.danceAt(d) == null) {
            return NO_SUCH;
        }
        return isFraction(over, under) ? FINE : BAD_NUMBER;
    }

    /** Leaves in thought the fraction between two. */
    private int betweenTrouble(int d, int other) {
        Dance dance = present.danceAt(d);
        Dance otherDance = present.danceAt(other);
        if (dance == null || otherDance == null || d == other) {
            return NO_SUCH;
        }
        Tangle one = dance.now;
        Tangle two = otherDance.now;
        if (one.under == 0 || two.under == 0 || one.isLike(two)) {
            return UNFIT;
        }
        if (one.over * two.under < two.over * one.under) {
            Ladder.between(one, two, thought);
        } else {
            Ladder.between(two, one, thought);
        }
        return FINE;
    }

    /** Leaves the ladder at the i-th rung. */
    private int rungTrouble(int n, int i) {
        int bad = numberTrouble(n, 1, MOST_RUNGS);
        if (bad != FINE) {
            return bad;
        }
        return i < 0 || ladder.climb(n, i) < i ? NOTHING : FINE;
    }

    /** Leaves in thought the TANGLE that CALLERS begin with. */
    private int turnsTrouble(int d, int n) {
        Dance dance = present.danceAt(d);
        if (dance == null) {
            return NO_SUCH;
        }
        if (n < 0 || n > MOST_TURNS) {
            return BAD_NUMBER;
        }
        thought.copy(dance.now);
        return FINE;
    }

    /** Leaves in thought what is had by draws. */
    private int drawTrouble(int d, int seed, int n) {
        Dance dance = present.danceAt(d);
        if (dance == null) {
            return NO_SUCH;
        }
        if (seed < 0 || seed > GREATEST_SEED || n < 0 || n > dance.count) {
            return BAD_NUMBER;
        }
        dance.walk(n, Chance.drawn(seed, n, present.slips), thought);
        return FINE;
    }

    // ---- parts of answers

    /** Leaves in thought what is behind so many CALLS of UNTIE, or at its end; how many they were. */
    private int untieBy(Dance dance, int calls) {
        thought.copy(dance.now);
        int done = 0;
        while (done < MANY && done < calls && !thought.isUntied()) {
            thought.step(thought.untying());
            done++;
        }
        return done;
    }

    private int rowFrom(int d, int over, int under) {
        Dance dance = present.danceAt(d);
        return dance == null ? NOT_SO : Ways.fewest(dance.now, over, under);
    }

    private int compareRings(int d, int other, int sign) {
        Dance dance = present.danceAt(d);
        Dance otherDance = present.danceAt(other);
        if (dance == null || otherDance == null) {
            return refuse(NO_SUCH, NONE);
        }
        return accept(Rings.areAlike(dance.now, otherDance.now, sign) ? 1 : 0);
    }

    private long likely(Dance dance, int n, boolean lower) {
        if (n < 0 || n > MOST_SLIPS || n > dance.count) {
            return refuse(BAD_NUMBER, NONE);
        }
        latest = FINE;
        return chance.answer(dance, n, present.slips, lower);
    }

    private void become(int d, Tangle now, int over, int under) {
        past.keep(d, now);
        now.put(over, under);
    }

    private static int pay(int pride, boolean bowing, boolean otherBowing) {
        if (bowing) {
            return otherBowing ? 1 : 0;
        }
        return otherBowing ? 2 : -pride;
    }

    private static boolean isRest(int pride, boolean one, boolean other) {
        return pay(pride, one, other) >= pay(pride, !one, other)
            && pay(pride, other, one) >= pay(pride, !other, one);
    }

    private static boolean isCorner(int corner) {
        return corner >= 0 && corner < 4;
    }

    private static boolean isRope(int corner, int to) {
        return isCorner(corner) && isCorner(to) && corner != to;
    }

    private static boolean isFraction(int over, int under) {
        if (under < 0 || Tangle.isTooGreat(over, under)) {
            return false;
        }
        return under == 0 ? over == 1 : shared(over, under) == 1;
    }

    private static int digits(int row) {
        int count = 0;
        for (int rest = row; rest > 0; rest /= 10) {
            count++;
        }
        return count;
    }

    /** The greatest number by which both can be parted. */
    private static long shared(long one, long other) {
        long more = Math.abs(one);
        long less = Math.abs(other);
        for (int i = 0; i < MANY && less != 0; i++) {
            long left = more % less;
            more = less;
            less = left;
        }
        return more;
    }

    private static boolean isIn(int bits, int i) {
        return (bits >> i & 1) == 1;
    }

    private static int at(int[] row, int i) {
        return i >= 0 && i < row.length ? row[i] : 0;
    }

    private static void putAt(int[] row, int i, int value) {
        if (i >= 0 && i < row.length) {
            row[i] = value;
        }
    }

    /** THE TAPE, and how a HALL is read from its first bytes, TOKEN by TOKEN. */
    private static final class Tape {
        private static final int MOST_BYTES = 600;
        private static final int BYTES_FED = 20;

        // FAULTS
        private static final int FORM = 1;
        private static final int UNTOLD = 2;
        private static final int TOLD_AGAIN = 3;
        private static final int BOUNDS = 4;
        private static final int TOO_MANY = 5;
        private static final int LACKS = 6;
        private static final int NO_ROW = 7;

        // kinds of TOKENS
        private static final int END = 0;
        private static final int WORD = 1;
        private static final int WHOLE = 2;
        private static final int SEMICOLON = 3;
        private static final int NO_TOKEN = 4;

        private static final int LONGEST_WORD = 12;
        private static final int LONGEST_WHOLE = 3;
        private static final int LONGEST_NAME = 8;

        private final int[] text;
        private int held;
        private int count;
        private int place;
        private int kind;
        private int start;
        private int length;
        private int value;
        private boolean hallTold;
        private int faultNumber;
        private int faultPlace;

        Tape() {
            text = new int[MOST_BYTES];
        }

        boolean hasRoom() {
            return held + BYTES_FED <= MOST_BYTES;
        }

        void take(int number) {
            for (int shift = 24; shift >= 0; shift -= 8) {
                putAt(text, held, number >> shift & 255);
                held++;
            }
        }

        /** False, and a FAULT, if the first n bytes are no HALL; it is empty then, whatever they are. */
        boolean read(Hall hall, int n) {
            held = 0;
            count = n;
            place = 0;
            hallTold = false;
            faultNumber = 0;
            faultPlace = NONE;
            hall.clear();
            step();
            boolean fine = readLine(hall);
            for (int i = 0; i < MANY && fine && kind == SEMICOLON; i++) {
                step();
                fine = readLine(hall);
            }
            if (!fine) {
                return false;
            }
            if (kind != END) {
                return fail(FORM);
            }
            return hall.danceCount > 0 || fail(LACKS);
        }

        private boolean readLine(Hall hall) {
            if (isWord("hall")) {
                return readSlips(hall);
            }
            if (isWord("dance")) {
                return readDance(hall);
            }
            if (isWord("unsure")) {
                return readUnsure(hall);
            }
            if (isWord("seen")) {
                return readSeen(hall);
            }
            return fail(FORM);
        }

        private boolean readSlips(Hall hall) {
            if (hallTold) {
                return fail(TOLD_AGAIN);
            }
            hallTold = true;
            step();
            if (!isWord("slips")) {
                return fail(FORM);
            }
            step();
            if (!isWhole(100)) {
                return false;
            }
            hall.slips = value;
            step();
            return true;
        }

        private boolean readDance(Hall hall) {
            if (!hallTold) {
                return fail(LACKS);
            }
            Dance dance = hall.nextDance();
            if (dance == null) {
                return fail(TOO_MANY);
            }
            step();
            if (!isName()) {
                return fail(FORM);
            }
            if (toldAt(hall) != NONE) {
                return fail(TOLD_AGAIN);
            }
            dance.nameStart = start;
            dance.nameLength = length;
            step();
            if (!readRow(dance)) {
                return false;
            }
            hall.danceCount++;
            step();
            return true;
        }

        private boolean readRow(Dance dance) {
            if (kind != WORD) {
                return fail(FORM);
            }
            dance.count = 0;
            for (int i = 0; i < length; i++) {
                int figure = figureOf(at(text, start + i));
                if (figure == NONE) {
                    return fail(NO_ROW);
                }
                dance.add(figure);
            }
            return true;
        }

        private boolean readUnsure(Hall hall) {
            if (!hallTold) {
                return fail(LACKS);
            }
            if (hall.unsureCount >= Hall.MOST_UNSURE) {
                return fail(TOO_MANY);
            }
            int d = readDanceTold(hall);
            Dance dance = hall.danceAt(d);
            if (dance == null || !isWhole(dance.count - 1)) {
                return false;
            }
            if (hall.isUnsure(d, value)) {
                return fail(TOLD_AGAIN);
            }
            hall.addUnsure(d, value);
            step();
            return true;
        }

        private boolean readSeen(Hall hall) {
            if (!hallTold) {
                return fail(LACKS);
            }
            if (hall.seenCount >= Hall.MOST_SEEN) {
                return fail(TOO_MANY);
            }
            int d = readDanceTold(hall);
            Dance dance = hall.danceAt(d);
            if (dance == null || !isWhole(dance.count)) {
                return false;
            }
            int number = value;
            if (hall.isSeen(d, number)) {
                return fail(TOLD_AGAIN);
            }
            step();
            int from = cornerHere();
            if (from == NONE) {
                return fail(FORM);
            }
            step();
            int to = cornerHere();
            if (to == NONE) {
                return fail(FORM);
            }
            if (to == from) {
                return fail(TOLD_AGAIN);
            }
            hall.addSeen(d, number, from, to);
            step();
            return true;
        }

        /** Goes past a line's first WORD and the NAME behind it; NONE, and a FAULT, without a dance. */
        private int readDanceTold(Hall hall) {
            step();
            if (!isName()) {
                fail(FORM);
                return NONE;
            }
            int d = toldAt(hall);
            if (d == NONE) {
                fail(UNTOLD);
                return NONE;
            }
            step();
            return d;
        }

        private boolean isWhole(int most) {
            if (kind != WHOLE) {
                return fail(FORM);
            }
            return value <= most || fail(BOUNDS);
        }

        private boolean isName() {
            if (kind != WORD || length > LONGEST_NAME) {
                return false;
            }
            return !isWord("hall") && !isWord("dance") && !isWord("unsure") && !isWord("seen");
        }

        private int toldAt(Hall hall) {
            for (int d = 0; d < hall.danceCount; d++) {
                Dance dance = hall.danceAt(d);
                if (dance != null && isNameOf(dance)) {
                    return d;
                }
            }
            return NONE;
        }

        private boolean isNameOf(Dance dance) {
            if (dance.nameLength != length) {
                return false;
            }
            for (int i = 0; i < length; i++) {
                if (at(text, dance.nameStart + i) != at(text, start + i)) {
                    return false;
                }
            }
            return true;
        }

        private boolean isWord(String word) {
            if (kind != WORD || word.length() != length) {
                return false;
            }
            for (int i = 0; i < word.length(); i++) {
                if (word.charAt(i) != at(text, start + i)) {
                    return false;
                }
            }
            return true;
        }

        private int cornerHere() {
            if (isWord("nw")) {
                return 0;
            }
            if (isWord("ne")) {
                return 1;
            }
            if (isWord("sw")) {
                return 2;
            }
            return isWord("se") ? 3 : NONE;
        }

        private static int figureOf(int sign) {
            if (sign == 't') {
                return TWIST;
            }
            if (sign == 'u') {
                return UNTWIST;
            }
            return sign == 'r' ? TURN : NONE;
        }

        /** Goes on to the next TOKEN. */
        private void step() {
            while (place < count && at(text, place) == ' ') {
                place++;
            }
            start = place;
            length = 0;
            if (place >= count) {
                kind = END;
            } else if (at(text, place) == ';') {
                kind = SEMICOLON;
                place++;
            } else if (isLetter(at(text, place))) {
                takeWord();
            } else if (isDigit(at(text, place))) {
                takeWhole();
            } else {
                kind = NO_TOKEN;
            }
        }

        private void takeWord() {
            while (place < count && isLetter(at(text, place))) {
                place++;
            }
            length = place - start;
            kind = length <= LONGEST_WORD ? WORD : NO_TOKEN;
        }

        private void takeWhole() {
            value = 0;
            while (place < count && isDigit(at(text, place))) {
                value = value * 10 + at(text, place) - '0';
                place++;
            }
            length = place - start;
            kind = length <= LONGEST_WHOLE ? WHOLE : NO_TOKEN;
        }

        private static boolean isLetter(int sign) {
            return sign >= 'a' && sign <= 'z';
        }

        private static boolean isDigit(int sign) {
            return sign >= '0' && sign <= '9';
        }

        private boolean fail(int number) {
            faultNumber = number;
            faultPlace = start;
            return false;
        }
    }

    /** What a text tells: dances, figures that may not have been danced, ropes that were seen. */
    private static final class Hall {
        private static final int MOST_UNSURE = 4;
        private static final int MOST_SEEN = 6;

        private int slips;
        private final Dance[] dances;
        private int danceCount;
        private final int[] unsureDance;
        private final int[] unsurePlace;
        private int unsureCount;
        private final int[] seenDance;
        private final int[] seenNumber;
        private final int[] seenFrom;
        private final int[] seenTo;
        private int seenCount;

        Hall() {
            dances = new Dance[MOST_DANCES];
            for (int d = 0; d < dances.length; d++) {
                dances[d] = new Dance();
            }
            unsureDance = new int[MOST_UNSURE];
            unsurePlace = new int[MOST_UNSURE];
            seenDance = new int[MOST_SEEN];
            seenNumber = new int[MOST_SEEN];
            seenFrom = new int[MOST_SEEN];
            seenTo = new int[MOST_SEEN];
        }

        void clear() {
            slips = 0;
            danceCount = 0;
            unsureCount = 0;
            seenCount = 0;
        }

        /** Each TANGLE as behind its whole ROW. */
        void begin() {
            for (int d = 0; d < danceCount; d++) {
                Dance dance = danceAt(d);
                if (dance != null) {
                    dance.walk(dance.count, 0, dance.now);
                }
            }
        }

        Dance danceAt(int d) {
            return d >= 0 && d < danceCount && d < dances.length ? dances[d] : null;
        }

        /** The one that is told next; null if there is no room. */
        Dance nextDance() {
            return danceCount >= 0 && danceCount < dances.length ? dances[danceCount] : null;
        }

        boolean isUnsure(int d, int place) {
            for (int i = 0; i < unsureCount; i++) {
                if (at(unsureDance, i) == d && at(unsurePlace, i) == place) {
                    return true;
                }
            }
            return false;
        }

        void addUnsure(int d, int place) {
            putAt(unsureDance, unsureCount, d);
            putAt(unsurePlace, unsureCount, place);
            unsureCount++;
        }

        boolean isSeen(int d, int number) {
            for (int i = 0; i < seenCount; i++) {
                if (at(seenDance, i) == d && at(seenNumber, i) == number) {
                    return true;
                }
            }
            return false;
        }

        void addSeen(int d, int number, int from, int to) {
            putAt(seenDance, seenCount, d);
            putAt(seenNumber, seenCount, number);
            putAt(seenFrom, seenCount, from);
            putAt(seenTo, seenCount, to);
            seenCount++;
        }

        /** How many sets of unsure figures there are. */
        int sets() {
            return 1 << unsureCount;
        }

        /** The sets that are FITS, a bit for each. */
        int fitting(Tangle tangle) {
            int bits = 0;
            for (int set = 0; set < sets(); set++) {
                if (isFitting(set, tangle)) {
                    bits |= 1 << set;
                }
            }
            return bits;
        }

        private boolean isFitting(int set, Tangle tangle) {
            for (int s = 0; s < seenCount; s++) {
                if (!wentSo(s, set, tangle)) {
                    return false;
                }
            }
            return true;
        }

        /** Whether a rope seen went so, a set of unsure figures not being danced. */
        boolean wentSo(int s, int set, Tangle tangle) {
            int d = at(seenDance, s);
            Dance dance = danceAt(d);
            if (dance == null) {
                return false;
            }
            dance.walk(at(seenNumber, s), leftOut(d, set), tangle);
            return tangle.goalOf(at(seenFrom, s)) == at(seenTo, s);
        }

        /** The places of a ROW at which nothing is danced, as bits. */
        private int leftOut(int d, int set) {
            int places = 0;
            for (int i = 0; i < unsureCount; i++) {
                if (isIn(set, i) && at(unsureDance, i) == d) {
                    places |= 1 << at(unsurePlace, i);
                }
            }
            return places;
        }

        int bestAsked(int fitting) {
            if (fitting == 0) {
                return NOT_SO;
            }
            int best = NOT_SO;
            int fewest = MANY;
            for (int i = 0; i < unsureCount; i++) {
                int left = leftBy(fitting, i);
                if (left < fewest) {
                    fewest = left;
                    best = i;
                }
            }
            return best;
        }

        /** How many FITS are left at most, the i-th unsure figure being told. */
        int leftBy(int fitting, int i) {
            int without = 0;
            for (int set = 0; set < sets(); set++) {
                if (isIn(fitting, set) && isIn(set, i)) {
                    without++;
                }
            }
            return Math.max(without, Integer.bitCount(fitting) - without);
        }
    }

    /** A NAME, a ROW, and the TANGLE now. */
    private static final class Dance {
        private final int[] row;
        private int count;
        private int nameStart;
        private int nameLength;
        private final Tangle now;

        Dance() {
            row = new int[Tape.LONGEST_WORD];
            now = new Tangle();
        }

        void add(int figure) {
            putAt(row, count, figure);
            count++;
        }

        int figureAt(int i) {
            return at(row, i);
        }

        /** From 0 by 1 on the first n figures, but for the places left out. */
        void walk(int n, int leftOut, Tangle tangle) {
            tangle.put(0, 1);
            for (int i = 0; i < n && i < count; i++) {
                if (!isIn(leftOut, i)) {
                    tangle.step(at(row, i));
                }
            }
        }

        /** The whole ROW from where a TANGLE is; false as soon as it is too great. */
        boolean danceWithin(Tangle tangle) {
            for (int i = 0; i < count; i++) {
                tangle.step(at(row, i));
                if (Tangle.isTooGreat(tangle.over, tangle.under)) {
                    return false;
                }
            }
            return true;
        }
    }

    /** A fraction in lowest terms: over is its upper one, under its lower one. */
    private static final class Tangle {
        private int over;
        private int under;

        Tangle() {
            over = 0;
            under = 1;
        }

        void put(int over, int under) {
            this.over = over;
            this.under = under;
        }

        void copy(Tangle other) {
            put(other.over, other.under);
        }

        boolean isLike(Tangle other) {
            return over == other.over && under == other.under;
        }

        boolean isUntied() {
            return over == 0;
        }

        void step(int figure) {
            put(overBy(figure, over, under), underBy(figure, over, under));
        }

        static int overBy(int figure, int over, int under) {
            if (figure == TWIST) {
                return over + under;
            }
            if (figure == UNTWIST) {
                return over - under;
            }
            if (over == 0) {
                return 1;
            }
            return over > 0 ? -under : under;
        }

        static int underBy(int figure, int over, int under) {
            return figure == TURN ? Math.abs(over) : under;
        }

        static boolean isTooGreat(int over, int under) {
            return over > GREATEST || over < -GREATEST || under > GREATEST;
        }

        /** To which corner the rope goes: along a row, along a column, or across both. */
        int goalOf(int corner) {
            if (over % 2 == 0) {
                return corner ^ 1;
            }
            return under % 2 == 0 ? corner ^ 2 : corner ^ 3;
        }

        int wholeParts() {
            int more = Math.abs(over);
            int less = under;
            int count = 0;
            while (count < MANY && less > 0) {
                int left = more % less;
                more = less;
                less = left;
                count++;
            }
            return count;
        }

        int wholePart(int i) {
            int more = Math.abs(over);
            int less = under;
            for (int k = 0; k < i && less > 0; k++) {
                int left = more % less;
                more = less;
                less = left;
            }
            return less > 0 ? more / less : 0;
        }

        int crossed() {
            int more = Math.abs(over);
            int less = under;
            int sum = 0;
            for (int k = 0; k < MANY && less > 0; k++) {
                int left = more % less;
                sum += more / less;
                more = less;
                less = left;
            }
            return sum;
        }

        /** The next FIGURE of UNTIE. */
        int untying() {
            return over < 0 ? TWIST : TURN;
        }
    }

    /** What a ROW does to whatever TANGLE: (a times upper and b times lower) by (c and d likewise). */
    private static final class Product {
        private int a;
        private int b;
        private int c;
        private int d;

        void follow(Dance dance) {
            a = 1;
            b = 0;
            c = 0;
            d = 1;
            for (int i = 0; i < dance.count; i++) {
                take(dance.figureAt(i));
            }
        }

        private void take(int figure) {
            if (figure == TWIST) {
                a += c;
                b += d;
            } else if (figure == UNTWIST) {
                a -= c;
                b -= d;
            } else {
                int wasA = a;
                int wasB = b;
                a = -c;
                b = -d;
                c = wasA;
                d = wasB;
            }
        }

        /** All signs changed at once, it is the same still. */
        boolean isSame(Product other) {
            return isSigned(other, 1) || isSigned(other, -1);
        }

        private boolean isSigned(Product other, int sign) {
            return a == sign * other.a && b == sign * other.b
                && c == sign * other.c && d == sign * other.d;
        }
    }

    /** The latest ACTS, and the IMAGES. */
    private static final class Past {
        private static final int MOST_ACTS = 16;
        private static final int MOST_IMAGES = 3;

        private final int[] actDance;
        private final int[] actOver;
        private final int[] actUnder;
        private int actCount;
        private final int[] imageOver;
        private final int[] imageUnder;
        private int imageCount;

        Past() {
            actDance = new int[MOST_ACTS];
            actOver = new int[MOST_ACTS];
            actUnder = new int[MOST_ACTS];
            imageOver = new int[MOST_IMAGES * MOST_DANCES];
            imageUnder = new int[MOST_IMAGES * MOST_DANCES];
        }

        void forgetAll() {
            actCount = 0;
            imageCount = 0;
        }

        void keep(int d, Tangle tangle) {
            if (actCount >= MOST_ACTS) {
                forgetEldest();
            }
            putAt(actDance, actCount, d);
            putAt(actOver, actCount, tangle.over);
            putAt(actUnder, actCount, tangle.under);
            actCount++;
        }

        private void forgetEldest() {
            for (int i = 1; i < actCount; i++) {
                putAt(actDance, i - 1, at(actDance, i));
                putAt(actOver, i - 1, at(actOver, i));
                putAt(actUnder, i - 1, at(actUnder, i));
            }
            actCount--;
        }

        void takeBack(Hall hall) {
            actCount--;
            Dance dance = hall.danceAt(at(actDance, actCount));
            if (dance != null) {
                dance.now.put(at(actOver, actCount), at(actUnder, actCount));
            }
        }

        void draw(Hall hall) {
            for (int d = 0; d < hall.danceCount; d++) {
                Dance dance = hall.danceAt(d);
                if (dance != null) {
                    putAt(imageOver, imageCount * MOST_DANCES + d, dance.now.over);
                    putAt(imageUnder, imageCount * MOST_DANCES + d, dance.now.under);
                }
            }
            imageCount++;
        }

        void goBack(int image, Hall hall) {
            for (int d = 0; d < hall.danceCount; d++) {
                Dance dance = hall.danceAt(d);
                if (dance != null) {
                    int i = image * MOST_DANCES + d;
                    dance.now.put(at(imageOver, i), at(imageUnder, i));
                }
            }
            actCount = 0;
        }
    }

    /** Where CALLS lead: ROWS of them, how far they reach, and two who call by turns. */
    private static final class Ways {
        private static final int WON = 1;
        private static final int LOST = -1;
        private static final int NOT_CALLED = -2;
        /** By 7 CALLS 68 TANGLES can be had. */
        private static final int MOST_REACHED = 128;

        private final int[] reachedOver;
        private final int[] reachedUnder;
        private int reachedCount;

        Ways() {
            reachedOver = new int[MOST_REACHED];
            reachedUnder = new int[MOST_REACHED];
        }

        /** The ROW of fewest CALLS; NOT_SO if there is none. */
        static int fewest(Tangle from, int toOver, int toUnder) {
            for (int calls = 0; calls <= MOST_CALLS; calls++) {
                int row = firstRow(from.over, from.under, calls, toOver, toUnder, 0);
                if (row != NOT_SO) {
                    return row;
                }
            }
            return NOT_SO;
        }

        /** A row begun goes on by just so many CALLS, at most 7, so it is no deeper. */
        private static int firstRow(int over, int under, int calls, int toOver, int toUnder, int row) {
            if (calls <= 0 || calls > MOST_CALLS) {
                return over == toOver && under == toUnder ? row : NOT_SO;
            }
            for (int figure = TWIST; figure <= TURN; figure++) {
                int nextOver = Tangle.overBy(figure, over, under);
                int nextUnder = Tangle.underBy(figure, over, under);
                if (Tangle.isTooGreat(nextOver, nextUnder)) {
                    continue;
                }
                int found = firstRow(nextOver, nextUnder, calls - 1, toOver, toUnder, row * 10 + figure + 1);
                if (found != NOT_SO) {
                    return found;
                }
            }
            return NOT_SO;
        }

        int spread(int calls) {
            reachedCount = 0;
            addReached(0, 1);
            int done = 0;
            for (int i = 0; i < calls; i++) {
                int known = reachedCount;
                for (int from = done; from < known; from++) {
                    addNeighbours(at(reachedOver, from), at(reachedUnder, from));
                }
                done = known;
            }
            return reachedCount;
        }

        private void addNeighbours(int over, int under) {
            for (int figure = TWIST; figure <= TURN; figure++) {
                addReached(Tangle.overBy(figure, over, under), Tangle.underBy(figure, over, under));
            }
        }

        private void addReached(int over, int under) {
            for (int i = 0; i < reachedCount; i++) {
                if (at(reachedOver, i) == over && at(reachedUnder, i) == under) {
                    return;
                }
            }
            if (reachedCount < MOST_REACHED) {
                putAt(reachedOver, reachedCount, over);
                putAt(reachedUnder, reachedCount, under);
                reachedCount++;
            }
        }

        /** What who begins can have by so many CALLS, at most 8, so it is no deeper: WON, LOST or 0. */
        private static int bestFor(int over, int under, int calls) {
            if (calls <= 0 || calls > MOST_TURNS) {
                return 0;
            }
            int best = NOT_CALLED;
            for (int figure = TWIST; figure <= TURN && best < WON; figure++) {
                best = Math.max(best, bestBy(figure, over, under, calls));
            }
            return best;
        }

        /** What who begins has by this first FIGURE; NOT_CALLED if it can't be called. */
        private static int bestBy(int figure, int over, int under, int calls) {
            int nextOver = Tangle.overBy(figure, over, under);
            int nextUnder = Tangle.underBy(figure, over, under);
            if (Tangle.isTooGreat(nextOver, nextUnder)) {
                return NOT_CALLED;
            }
            return nextOver == 0 ? WON : -bestFor(nextOver, nextUnder, calls - 1);
        }
    }

    /** RUNGS from 0 by 1 to 1 by 1, and the fraction between two. */
    private static final class Ladder {
        private int over;
        private int under;

        /** Up so many rungs; how many there were, to 1 by 1. */
        int climb(int n, int rungs) {
            over = 0;
            under = 1;
            int nextOver = 1;
            int nextUnder = n;
            int climbed = 0;
            while (climbed < MANY && climbed < rungs && over < under && nextUnder > 0) {
                int times = (n + under) / nextUnder;
                int thenOver = times * nextOver - over;
                int thenUnder = times * nextUnder - under;
                over = nextOver;
                under = nextUnder;
                nextOver = thenOver;
                nextUnder = thenUnder;
                climbed++;
            }
            return climbed;
        }

        /** The one of least lower one above less and below more; no lower ones are 0. */
        static void between(Tangle less, Tangle more, Tangle found) {
            if (less.under < 1 || more.under < 1) {
                return;
            }
            // both lower ones together serve as one, as both upper ones do
            for (int under = 1; under <= less.under + more.under; under++) {
                int least = Math.floorDiv(less.over * under, less.under) + 1;
                int most = -Math.floorDiv(-more.over * under, more.under) - 1;
                if (least <= most) {
                    found.put(nearestToZero(least, most), under);
                    return;
                }
            }
        }

        private static int nearestToZero(int least, int most) {
            if (least > 0) {
                return least;
            }
            return most < 0 ? most : 0;
        }
    }

    /** TANGLES that are CLOSED. */
    private static final class Rings {
        static int numberOf(Tangle tangle, boolean down) {
            return down ? tangle.under : Math.abs(tangle.over);
        }

        /** Sign -1 changes the sign of the one ahead. */
        static boolean areAlike(Tangle one, Tangle other, int sign) {
            int k = Math.abs(one.over);
            if (k != Math.abs(other.over)) {
                return false;
            }
            return isAlikeBy(k, sign * signed(one), signed(other));
        }

        private static int signed(Tangle tangle) {
            return tangle.over < 0 ? -tangle.under : tangle.under;
        }

        private static boolean isAlikeBy(int k, int one, int other) {
            if (k < 2) {
                return true;
            }
            return (one - other) % k == 0 || (one * other - 1) % k == 0;
        }

        /** How many there are by k, each told by its least lower one. */
        static int sorts(int k, boolean mirror) {
            int count = 0;
            for (int lower = 1; lower <= k; lower++) {
                if (shared(lower, k) == 1 && isLeast(lower, k, mirror)) {
                    count++;
                }
            }
            return count;
        }

        private static boolean isLeast(int lower, int k, boolean mirror) {
            for (int less = 1; less < lower; less++) {
                if (isAlikeBy(k, less, lower) || mirror && isAlikeBy(k, -less, lower)) {
                    return false;
                }
            }
            return true;
        }
    }

    /** SLIPS: what is likely, and what is drawn. */
    private static final class Chance {
        private static final int GOES = 0;
        private static final int UNTIED = 1;
        private static final int CROSSED = 2;

        private final Tangle tangle;
        private int asked;
        private int corner;
        private int to;

        Chance() {
            tangle = new Tangle();
        }

        void measure(int asked, int corner, int to) {
            this.asked = asked;
            this.corner = corner;
            this.to = to;
        }

        /** Of n figures, 0 .. 8: by more the sums would leave a long. */
        long answer(Dance dance, int n, int slips, boolean lower) {
            long sum = 0;
            for (int slipped = 0; slipped < 1 << n; slipped++) {
                dance.walk(n, slipped, tangle);
                int count = Integer.bitCount(slipped);
                sum += power(slips, count) * power(100 - slips, n - count) * measured();
            }
            long all = power(100, n);
            long both = shared(sum, all);
            if (both == 0) {
                return 0;
            }
            return lower ? all / both : sum / both;
        }

        private int measured() {
            if (asked == GOES) {
                return tangle.goalOf(corner) == to ? 1 : 0;
            }
            if (asked == UNTIED) {
                return tangle.isUntied() ? 1 : 0;
            }
            return tangle.crossed();
        }

        private static long power(int base, int times) {
            long result = 1;
            for (int i = 0; i < times; i++) {
                result *= base;
            }
            return result;
        }

        /** The places, as bits, at which the draws let a figure slip. */
        static int drawn(int seed, int n, int slips) {
            int places = 0;
            int draw = seed;
            for (int i = 0; i < n; i++) {
                draw = (75 * draw + 74) % 65537;
                if (draw % 100 < slips) {
                    places |= 1 << i;
                }
            }
            return places;
        }
    }
}
