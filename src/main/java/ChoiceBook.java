import java.util.Arrays;

/** A book one plays: told in a text, read choice by choice, with odds, numbers, pages and images. */
public final class ChoiceBook {
    public static final int NONE = -1, UNKNOWN = -1000001, OUTSIDE = -1000002, NOT = -1000003, FULL = -1000004;

    private static final int MILLION = 1000000;
    private static final int TEXT_LIMIT = 600;
    private static final int PART_LIMIT = 24;
    private static final int EFFECT_LIMIT = 4;
    private static final int CHOICE_LIMIT = 6;
    private static final int THING_LIMIT = 8;
    private static final int HEALTH_LIMIT = 9;
    private static final int UNTOLD_HEALTH = 5;
    private static final int LOG_LIMIT = 60;
    private static final int TURN_LIMIT = 60;
    private static final int TRY_LIMIT = 99;
    private static final int IMAGE_COUNT = 2;
    private static final int DIE_FACES = 6;
    private static final int LEAST_LINES = 10;
    private static final int MOST_LINES = 60;

    private static final int TAKE = 0;
    private static final int DROP = 1;
    private static final int HURT = 2;
    private static final int HEAL = 3;

    private static final int BY_CHOICES = 0;
    private static final int BY_WIN = 1;
    private static final int BY_DIE = 2;
    private static final int BY_ROLL = 3;

    private static final int GOING_ON = 0;
    private static final int WON = 1;
    private static final int LOST = 2;
    private static final int STUCK = 3;

    private static final int NO_FAULT = 0;
    private static final int MISPLACED = 1;
    private static final int BAD_NUMBER = 2;
    private static final int TOO_MANY = 3;
    private static final int NO_SUCH_PART = 4;

    private final Parser parser = new Parser();
    private final Situation here;
    private final Situation[] images;
    private final int[] logged = new int[LOG_LIMIT];
    private int loggedCount = 0;

    private final StateGraph comeTo;
    private final StateGraph supposed;
    private boolean comeToIsFresh = false;

    private final int[] linkRows = new int[PART_LIMIT];
    private final int[] triedNumbers = new int[PART_LIMIT];
    private final int[] pages = new int[PART_LIMIT];

    public ChoiceBook() {
        Book told = new Book();
        here = new Situation(told);
        comeTo = new StateGraph(told);
        supposed = new StateGraph(told);
        images = new Situation[IMAGE_COUNT];
        for (int i = 0; i < IMAGE_COUNT; i++) {
            images[i] = new Situation(new Book());
        }
    }

    // ---- the book

    public int feed(int n, long bytes) {
        if (n < 1 || n > 8) {
            return OUTSIDE;
        }
        if (n > TEXT_LIMIT - parser.textLength) {
            return FULL;
        }
        for (int i = n - 1; i >= 0; i--) {
            parser.append((byte) (bytes >>> (8 * i)));
        }
        return parser.textLength;
    }

    public int book() {
        int kind = parser.parse();
        parser.textLength = 0;
        if (kind != NO_FAULT) {
            return -10 - kind;
        }
        here.openBook(parser.draft);
        loggedCount = 0;
        comeToIsFresh = false;
        return here.book.partCount;
    }

    public int fault() {
        return parser.faultPlace;
    }

    public int part(int p, int what) {
        Book book = here.book;
        if (!book.hasPart(p)) {
            return UNKNOWN;
        }
        if (what < 0 || what > 6) {
            return OUTSIDE;
        }
        boolean byRoll = book.end[p] == BY_ROLL;
        switch (what) {
            case 0:
                return book.end[p];
            case 1:
                return book.effectCount[p];
            case 2:
                return book.choiceCount[p];
            case 3:
                return book.lines(p);
            case 4:
                return byRoll ? book.rollNeed[p] : NONE;
            case 5:
                return byRoll ? book.rollHigh[p] : NONE;
            default:
                return byRoll ? book.rollLow[p] : NONE;
        }
    }

    public int effect(int p, int i, int what) {
        Book book = here.book;
        if (!book.hasEffect(p, i)) {
            return UNKNOWN;
        }
        if (what < 0 || what > 1) {
            return OUTSIDE;
        }
        int at = p * EFFECT_LIMIT + i;
        return what == 0 ? book.effectKind[at] : book.effectValue[at];
    }

    public int choice(int p, int i, int what) {
        Book book = here.book;
        if (!book.hasChoice(p, i)) {
            return UNKNOWN;
        }
        if (what < 0 || what > 2) {
            return OUTSIDE;
        }
        int at = p * CHOICE_LIMIT + i;
        if (what == 0) {
            return book.choiceTo[at];
        }
        return what == 1 ? book.choiceWith[at] : book.choiceWithout[at];
    }

    public int link(int p, int to, int with, int without) {
        Book book = here.book;
        if (!book.hasPart(p) || !book.hasPart(to) || !isThingOrNone(with) || !isThingOrNone(without)) {
            return UNKNOWN;
        }
        if (book.end[p] != BY_CHOICES) {
            return NOT;
        }
        if (book.choiceCount[p] >= CHOICE_LIMIT) {
            return FULL;
        }
        book.addChoice(p, to, with, without);
        comeToIsFresh = false;
        return book.choiceCount[p];
    }

    public int unlink(int p, int i) {
        Book book = here.book;
        if (!book.hasChoice(p, i)) {
            return UNKNOWN;
        }
        book.strikeChoice(p, i);
        comeToIsFresh = false;
        return book.choiceCount[p];
    }

    public int count(int what) {
        switch (what) {
            case 0:
                return here.book.partCount;
            case 1:
                return here.book.allChoices();
            case 2:
                return here.book.health;
            case 3:
                return loggedCount;
            case 4:
                return parser.textLength;
            case 5:
                return freshComeTo().begunSize;
            default:
                return OUTSIDE;
        }
    }

    // ---- read

    public int begin() {
        if (here.book.partCount == 0) {
            return NOT;
        }
        here.beginReading();
        return here.standing();
    }

    public int choose(int k) {
        if (!here.begun) {
            return NOT;
        }
        if (!here.book.hasChoice(State.partOf(here.state), k)) {
            return UNKNOWN;
        }
        if (!here.book.isOpen(here.state, k)) {
            return NOT;
        }
        here.turnTo(here.book.wayOut(here.state, k));
        return here.standing();
    }

    public int roll(int v) {
        if (v != NONE && (v < 1 || v > DIE_FACES)) {
            return OUTSIDE;
        }
        if (!here.begun || State.isOver(here.state)) {
            return NOT;
        }
        int p = State.partOf(here.state);
        if (!here.book.isRoll(p)) {
            return NOT;
        }
        int rolled = v == NONE ? here.draw(DIE_FACES) + 1 : v;
        here.turnTo(here.book.rollTarget(p, rolled));
        return here.standing();
    }

    public int now(int what) {
        if (what < 0 || what > 5) {
            return OUTSIDE;
        }
        if (!here.begun) {
            return NOT;
        }
        switch (what) {
            case 0:
                return State.partOf(here.state);
            case 1:
                return State.thingsOf(here.state);
            case 2:
                return State.healthOf(here.state);
            case 3:
                return here.turns;
            case 4:
                return here.standing();
            default:
                return here.book.openChoices(here.state);
        }
    }

    // ---- odds

    public int odds(int t) {
        if (t < 0 || t > TURN_LIMIT) {
            return OUTSIDE;
        }
        if (!here.begun) {
            return NOT;
        }
        StateGraph graph = freshComeTo();
        int root = graph.include(here.state);
        graph.runTurns(t);
        return graph.oddsOf(root);
    }

    public int advice(int t) {
        if (t < 1 || t > TURN_LIMIT) {
            return OUTSIDE;
        }
        if (!here.begun) {
            return NOT;
        }
        StateGraph graph = freshComeTo();
        graph.include(here.state);
        graph.runTurns(t - 1);
        return bestChoice(graph);
    }

    public int fewest() {
        if (!here.begun) {
            return NOT;
        }
        StateGraph graph = freshComeTo();
        int root = graph.include(here.state);
        graph.measureWins();
        return graph.turnsToWinOf(root);
    }

    public int surely() {
        if (!here.begun) {
            return NOT;
        }
        StateGraph graph = freshComeTo();
        int root = graph.include(here.state);
        // A roll's ODDS are a whole MILLION only if both its ways are, so the first full ODDS are the sure win.
        for (int t = 0; t <= TURN_LIMIT; t++) {
            graph.runTurns(t);
            if (graph.oddsOf(root) == MILLION) {
                return t;
            }
        }
        return NONE;
    }

    // ---- what there may be

    public int parts(int what) {
        switch (what) {
            case 0:
                return freshComeTo().begunParts;
            case 1:
                return mustParts(freshComeTo());
            case 2:
                return freshComeTo().trapParts();
            case 3:
                return freshComeTo().holeParts();
            default:
                return OUTSIDE;
        }
    }

    public int things(int what) {
        switch (what) {
            case 0:
                return freshComeTo().hadThings();
            case 1:
                return neededThings(freshComeTo());
            default:
                return OUTSIDE;
        }
    }

    public int without(int thing, int t) {
        if (!isThing(thing)) {
            return UNKNOWN;
        }
        if (t < 0 || t > TURN_LIMIT) {
            return OUTSIDE;
        }
        if (here.book.partCount == 0) {
            return NOT;
        }
        supposed.build(thing, NONE, false);
        int root = supposed.find(here.book.beginning(thing));
        supposed.runTurns(t);
        return supposed.oddsOf(root);
    }

    public int log(int p) {
        if (!here.book.hasPart(p)) {
            return UNKNOWN;
        }
        if (loggedCount >= LOG_LIMIT) {
            return FULL;
        }
        logged[loggedCount] = p;
        loggedCount++;
        return loggedCount;
    }

    public int clear() {
        int had = loggedCount;
        loggedCount = 0;
        return had;
    }

    public int judge() {
        if (loggedCount == 0) {
            return NONE;
        }
        Book book = here.book;
        // THE LOG outlives goBack, so it may tell of PARTS that the book of the IMAGE has not.
        if (book.partCount == 0 || logged[0] != 0) {
            return 0;
        }
        int state = book.beginning(NONE);
        for (int i = 1; i < loggedCount && i < LOG_LIMIT; i++) {
            if (!book.canGo(state, logged[i])) {
                return i;
            }
            state = book.goOn(state, logged[i], NONE);
        }
        return NONE;
    }

    // ---- numbers, pages

    public int number(int p) {
        if (!here.book.hasPart(p)) {
            return UNKNOWN;
        }
        return here.numbers[p];
    }

    public int near(int d) {
        if (d < 1 || d > PART_LIMIT) {
            return OUTSIDE;
        }
        here.book.findLinks(linkRows);
        return nearPairs(linkRows, here.numbers, d);
    }

    public int shuffle(int d, int n) {
        if (d < 1 || d > PART_LIMIT || n < 1 || n > TRY_LIMIT) {
            return OUTSIDE;
        }
        here.book.findLinks(linkRows);
        int least = nearPairs(linkRows, here.numbers, d);
        System.arraycopy(here.numbers, 0, triedNumbers, 0, PART_LIMIT);
        for (int i = 0; i < n; i++) {
            mixTriedNumbers();
            int pairs = nearPairs(linkRows, triedNumbers, d);
            if (pairs < least) {
                least = pairs;
                System.arraycopy(triedNumbers, 0, here.numbers, 0, PART_LIMIT);
            }
        }
        return least;
    }

    public int page(int p, int h) {
        if (!here.book.hasPart(p)) {
            return UNKNOWN;
        }
        if (h < LEAST_LINES || h > MOST_LINES) {
            return OUTSIDE;
        }
        here.layPages(h, pages);
        return pages[p];
    }

    public int flips(int h) {
        if (h < LEAST_LINES || h > MOST_LINES) {
            return OUTSIDE;
        }
        if (!here.begun) {
            return NOT;
        }
        here.layPages(h, pages);
        return here.flipsOver(pages);
    }

    // ---- blind readers, images

    public int seed(int v) {
        if (v < 0) {
            return OUTSIDE;
        }
        int before = here.seed;
        here.seed = v;
        return before;
    }

    public int blind(int n) {
        if (n < 1 || n > TRY_LIMIT) {
            return OUTSIDE;
        }
        if (here.book.partCount == 0) {
            return NOT;
        }
        int wins = 0;
        for (int i = 0; i < n; i++) {
            if (State.fateOf(blindEnd()) == WON) {
                wins++;
            }
        }
        return wins;
    }

    public int keep(int i) {
        if (i < 0 || i >= IMAGE_COUNT) {
            return UNKNOWN;
        }
        images[i].copyFrom(here);
        images[i].kept = true;
        return 1;
    }

    public int goBack(int i) {
        if (i < 0 || i >= IMAGE_COUNT) {
            return UNKNOWN;
        }
        if (!images[i].kept) {
            return NOT;
        }
        here.copyFrom(images[i]);
        comeToIsFresh = false;
        return 1;
    }

    // ---- helpers

    private static boolean isThing(int thing) {
        return thing >= 0 && thing < THING_LIMIT;
    }

    private static boolean isThingOrNone(int thing) {
        return thing == NONE || isThing(thing);
    }

    /** The STATES that are COME TO, looked for anew only if the book has changed since. */
    private StateGraph freshComeTo() {
        if (!comeToIsFresh) {
            comeTo.build(NONE, NONE, false);
            comeToIsFresh = true;
        }
        return comeTo;
    }

    /** The CHOICE that is OPEN now and leads to the greatest ODDS of the graph; NONE. */
    private int bestChoice(StateGraph graph) {
        int best = NONE;
        int bestOdds = -1;
        for (int k = 0; k < CHOICE_LIMIT; k++) {
            if (here.book.isOpen(here.state, k)) {
                int next = here.book.goOn(here.state, here.book.wayOut(here.state, k), NONE);
                int odds = graph.oddsOf(graph.find(next));
                if (odds > bestOdds) {
                    bestOdds = odds;
                    best = k;
                }
            }
        }
        return best;
    }

    private int mustParts(StateGraph graph) {
        if (!graph.begunWon) {
            return 0;
        }
        int set = 0;
        for (int p = 0; p < PART_LIMIT; p++) {
            // A PART that nobody comes to is missed by nobody, so it need not be tried.
            if ((graph.begunParts >> p & 1) == 1) {
                supposed.build(NONE, p, true);
                if (!supposed.begunWon) {
                    set |= 1 << p;
                }
            }
        }
        return set;
    }

    private int neededThings(StateGraph graph) {
        if (!graph.begunWon) {
            return 0;
        }
        int had = graph.hadThings();
        int set = 0;
        for (int thing = 0; thing < THING_LIMIT; thing++) {
            // A THING that is never had opens and shuts nothing, so it need not be tried.
            if ((had >> thing & 1) == 1) {
                supposed.build(thing, NONE, true);
                if (!supposed.begunWon) {
                    set |= 1 << thing;
                }
            }
        }
        return set;
    }

    /** How many pairs of the rows have numbers less than d apart. */
    private static int nearPairs(int[] rows, int[] numbers, int d) {
        int pairs = 0;
        for (int a = 0; a < PART_LIMIT; a++) {
            for (int b = a + 1; b < PART_LIMIT; b++) {
                if ((rows[a] >> b & 1) == 1 && Math.abs(numbers[a] - numbers[b]) < d) {
                    pairs++;
                }
            }
        }
        return pairs;
    }

    private void mixTriedNumbers() {
        for (int k = here.book.partCount - 1; k >= 2; k--) {
            int other = 1 + here.draw(k);
            int moved = triedNumbers[k];
            triedNumbers[k] = triedNumbers[other];
            triedNumbers[other] = moved;
        }
    }

    /** The STATE in which one BLIND reader ends. */
    private int blindEnd() {
        int state = here.book.beginning(NONE);
        for (int turn = 0; turn < TURN_LIMIT; turn++) {
            int to = blindWay(state);
            if (to == NONE) {
                return state;
            }
            state = here.book.goOn(state, to, NONE);
        }
        return state;
    }

    /** The PART that a BLIND reader goes to; NONE if there is nowhere to go. */
    private int blindWay(int state) {
        Book book = here.book;
        if (State.isOver(state)) {
            return NONE;
        }
        if (book.isRoll(State.partOf(state))) {
            return book.rollTarget(State.partOf(state), here.draw(DIE_FACES) + 1);
        }
        int open = book.openChoices(state);
        if (open == 0) {
            return NONE;
        }
        return book.wayOut(state, nthOf(open, here.draw(Integer.bitCount(open))));
    }

    /** The n-th CHOICE (0 on) of a SET of CHOICES. */
    private static int nthOf(int set, int n) {
        int left = n;
        for (int k = 0; k < CHOICE_LIMIT; k++) {
            if ((set >> k & 1) == 1) {
                if (left == 0) {
                    return k;
                }
                left--;
            }
        }
        return 0;
    }

    /** A STATE as one number, so that walking makes no objects: PART, THINGS, HEALTH, and whether WON or LOST. */
    private static final class State {
        private State() {
        }

        static int pack(int part, int things, int health, int fate) {
            return (part << 14) | (things << 6) | (health << 2) | fate;
        }

        static int partOf(int state) {
            return state >> 14 & 31;
        }

        static int thingsOf(int state) {
            return state >> 6 & 255;
        }

        static int healthOf(int state) {
            return state >> 2 & 15;
        }

        static int fateOf(int state) {
            return state & 3;
        }

        static boolean isOver(int state) {
            return (state & 3) != GOING_ON;
        }
    }

    /** PARTS with their EFFECTS and ends, and the told HEALTH. */
    private static final class Book {
        int partCount = 0;
        int health = UNTOLD_HEALTH;
        final int[] end = new int[PART_LIMIT];
        final int[] rollNeed = new int[PART_LIMIT];
        final int[] rollHigh = new int[PART_LIMIT];
        final int[] rollLow = new int[PART_LIMIT];
        final int[] effectCount = new int[PART_LIMIT];
        final int[] effectKind = new int[PART_LIMIT * EFFECT_LIMIT];
        final int[] effectValue = new int[PART_LIMIT * EFFECT_LIMIT];
        final int[] choiceCount = new int[PART_LIMIT];
        final int[] choiceTo = new int[PART_LIMIT * CHOICE_LIMIT];
        final int[] choiceWith = new int[PART_LIMIT * CHOICE_LIMIT];
        final int[] choiceWithout = new int[PART_LIMIT * CHOICE_LIMIT];

        void empty() {
            partCount = 0;
            health = UNTOLD_HEALTH;
        }

        void copyFrom(Book other) {
            partCount = other.partCount;
            health = other.health;
            System.arraycopy(other.end, 0, end, 0, PART_LIMIT);
            System.arraycopy(other.rollNeed, 0, rollNeed, 0, PART_LIMIT);
            System.arraycopy(other.rollHigh, 0, rollHigh, 0, PART_LIMIT);
            System.arraycopy(other.rollLow, 0, rollLow, 0, PART_LIMIT);
            System.arraycopy(other.effectCount, 0, effectCount, 0, PART_LIMIT);
            System.arraycopy(other.effectKind, 0, effectKind, 0, PART_LIMIT * EFFECT_LIMIT);
            System.arraycopy(other.effectValue, 0, effectValue, 0, PART_LIMIT * EFFECT_LIMIT);
            System.arraycopy(other.choiceCount, 0, choiceCount, 0, PART_LIMIT);
            System.arraycopy(other.choiceTo, 0, choiceTo, 0, PART_LIMIT * CHOICE_LIMIT);
            System.arraycopy(other.choiceWith, 0, choiceWith, 0, PART_LIMIT * CHOICE_LIMIT);
            System.arraycopy(other.choiceWithout, 0, choiceWithout, 0, PART_LIMIT * CHOICE_LIMIT);
        }

        boolean hasPart(int p) {
            return p >= 0 && p < partCount && p < PART_LIMIT;
        }

        boolean hasEffect(int p, int i) {
            return hasPart(p) && i >= 0 && i < effectCount[p] && i < EFFECT_LIMIT;
        }

        boolean hasChoice(int p, int i) {
            return hasPart(p) && i >= 0 && i < choiceCount[p] && i < CHOICE_LIMIT;
        }

        boolean isRoll(int p) {
            return hasPart(p) && end[p] == BY_ROLL;
        }

        int lines(int p) {
            if (!hasPart(p)) {
                return 0;
            }
            return 2 + effectCount[p] + 2 * choiceCount[p] + (end[p] == BY_ROLL ? 2 : 0);
        }

        int allChoices() {
            int all = 0;
            for (int p = 0; p < partCount && p < PART_LIMIT; p++) {
                all += choiceCount[p];
            }
            return all;
        }

        /** A bare PART comes behind the others: its number, NONE if there is no room. */
        int addPart() {
            if (partCount >= PART_LIMIT) {
                return NONE;
            }
            int p = partCount;
            partCount++;
            end[p] = BY_CHOICES;
            effectCount[p] = 0;
            choiceCount[p] = 0;
            return p;
        }

        void addEffect(int p, int kind, int value) {
            if (hasPart(p) && effectCount[p] < EFFECT_LIMIT) {
                int at = p * EFFECT_LIMIT + effectCount[p];
                effectKind[at] = kind;
                effectValue[at] = value;
                effectCount[p]++;
            }
        }

        void addChoice(int p, int to, int with, int without) {
            if (hasPart(p) && choiceCount[p] < CHOICE_LIMIT) {
                int at = p * CHOICE_LIMIT + choiceCount[p];
                choiceTo[at] = to;
                choiceWith[at] = with;
                choiceWithout[at] = without;
                choiceCount[p]++;
            }
        }

        void strikeChoice(int p, int i) {
            if (!hasChoice(p, i)) {
                return;
            }
            int from = p * CHOICE_LIMIT;
            for (int at = from + i; at + 1 < from + choiceCount[p]; at++) {
                choiceTo[at] = choiceTo[at + 1];
                choiceWith[at] = choiceWith[at + 1];
                choiceWithout[at] = choiceWithout[at + 1];
            }
            choiceCount[p]--;
        }

        void endByRoll(int p, int need, int high, int low) {
            if (hasPart(p)) {
                end[p] = BY_ROLL;
                rollNeed[p] = need;
                rollHigh[p] = high;
                rollLow[p] = low;
            }
        }

        /** Whether one who is in a STATE may take a CHOICE of the PART; none when it is over. */
        boolean isOpen(int state, int i) {
            int p = State.partOf(state);
            if (State.isOver(state) || !hasChoice(p, i)) {
                return false;
            }
            int things = State.thingsOf(state);
            int with = choiceWith[p * CHOICE_LIMIT + i];
            int without = choiceWithout[p * CHOICE_LIMIT + i];
            return (with == NONE || (things >> with & 1) == 1)
                && (without == NONE || (things >> without & 1) == 0);
        }

        int openChoices(int state) {
            int set = 0;
            int p = State.partOf(state);
            for (int i = 0; hasChoice(p, i) && i < CHOICE_LIMIT; i++) {
                if (isOpen(state, i)) {
                    set |= 1 << i;
                }
            }
            return set;
        }

        int rollTarget(int p, int rolled) {
            if (!isRoll(p)) {
                return NONE;
            }
            return rolled >= rollNeed[p] ? rollHigh[p] : rollLow[p];
        }

        /** How many ways out a PART has, OPEN or not. */
        int waysFrom(int p) {
            if (!hasPart(p)) {
                return 0;
            }
            return end[p] == BY_ROLL ? 2 : Math.min(CHOICE_LIMIT, choiceCount[p]);
        }

        /** Where way k leads out of a STATE (a CHOICE; at a roll 0 and 1 for P and Q); NONE if it is shut. */
        int wayOut(int state, int k) {
            int p = State.partOf(state);
            if (isOpen(state, k)) {
                return choiceTo[p * CHOICE_LIMIT + k];
            }
            if (State.isOver(state) || !isRoll(p) || k < 0 || k > 1) {
                return NONE;
            }
            return k == 0 ? rollHigh[p] : rollLow[p];
        }

        boolean canGo(int state, int to) {
            if (!hasPart(to)) {
                return false;
            }
            int all = waysFrom(State.partOf(state));
            for (int k = 0; k < all; k++) {
                if (wayOut(state, k) == to) {
                    return true;
                }
            }
            return false;
        }

        int standing(int state) {
            if (State.isOver(state)) {
                return State.fateOf(state);
            }
            return isRoll(State.partOf(state)) || openChoices(state) != 0 ? GOING_ON : STUCK;
        }

        int beginning(int noThing) {
            return arrive(0, 0, health, noThing);
        }

        int goOn(int state, int to, int noThing) {
            return arrive(to, State.thingsOf(state), State.healthOf(state), noThing);
        }

        /** The STATE behind the EFFECTS of a PART, where 'take' of noThing does nothing. */
        private int arrive(int p, int things, int fit, int noThing) {
            if (!hasPart(p)) {
                return State.pack(0, 0, 0, LOST);
            }
            int had = things;
            int left = fit;
            for (int i = 0; i < effectCount[p] && i < EFFECT_LIMIT; i++) {
                int value = effectValue[p * EFFECT_LIMIT + i];
                switch (effectKind[p * EFFECT_LIMIT + i]) {
                    case TAKE:
                        had |= value == noThing ? 0 : 1 << value;
                        break;
                    case DROP:
                        had &= ~(1 << value);
                        break;
                    case HURT:
                        left -= value;
                        break;
                    default:
                        left = Math.min(HEALTH_LIMIT, left + value);
                        break;
                }
                if (left <= 0) {
                    return State.pack(p, had, 0, LOST);
                }
            }
            int fate = end[p] == BY_WIN ? WON : end[p] == BY_DIE ? LOST : GOING_ON;
            return State.pack(p, had, left, fate);
        }

        /** For each PART the SET of later PARTS that it is LINKED to. */
        void findLinks(int[] rows) {
            Arrays.fill(rows, 0);
            for (int p = 0; p < partCount && p < PART_LIMIT; p++) {
                if (end[p] == BY_ROLL) {
                    addPair(rows, p, rollHigh[p]);
                    addPair(rows, p, rollLow[p]);
                }
                for (int i = 0; i < choiceCount[p] && i < CHOICE_LIMIT; i++) {
                    addPair(rows, p, choiceTo[p * CHOICE_LIMIT + i]);
                }
            }
        }

        private static void addPair(int[] rows, int a, int b) {
            int low = Math.min(a, b);
            int high = Math.max(a, b);
            if (low >= 0 && low < high && low < rows.length) {
                rows[low] |= 1 << high;
            }
        }
    }

    /** All that an IMAGE keeps; the object's own one is what is so. */
    private static final class Situation {
        final Book book;
        final int[] numbers = new int[PART_LIMIT];
        int seed = 0;
        boolean begun = false;
        int state = 0;
        int turns = 0;
        boolean kept = false;
        // FLIPS need only how often one went from which PART to which, so that no row of PARTS can run full.
        private final int[] moves = new int[PART_LIMIT * PART_LIMIT];
        private final int[] partByNumber = new int[PART_LIMIT];

        Situation(Book book) {
            this.book = book;
            for (int p = 0; p < PART_LIMIT; p++) {
                numbers[p] = p + 1;
            }
        }

        void copyFrom(Situation other) {
            book.copyFrom(other.book);
            System.arraycopy(other.numbers, 0, numbers, 0, PART_LIMIT);
            seed = other.seed;
            begun = other.begun;
            state = other.state;
            turns = other.turns;
            System.arraycopy(other.moves, 0, moves, 0, PART_LIMIT * PART_LIMIT);
        }

        void openBook(Book told) {
            book.copyFrom(told);
            begun = false;
            for (int p = 0; p < PART_LIMIT; p++) {
                numbers[p] = p + 1;
            }
        }

        void beginReading() {
            begun = true;
            turns = 0;
            Arrays.fill(moves, 0);
            state = book.beginning(NONE);
        }

        void turnTo(int to) {
            int from = State.partOf(state);
            if (!book.hasPart(from) || !book.hasPart(to)) {
                return;
            }
            moves[from * PART_LIMIT + to]++;
            turns++;
            state = book.goOn(state, to, NONE);
        }

        int standing() {
            return book.standing(state);
        }

        int draw(int n) {
            seed = (int) (seed * 1103515245L + 12345L & 2147483647L);
            return n > 0 ? seed / 65536 % n : 0;
        }

        void layPages(int h, int[] pages) {
            for (int p = 0; p < book.partCount && p < PART_LIMIT; p++) {
                int place = numbers[p] - 1;
                if (place >= 0 && place < PART_LIMIT) {
                    partByNumber[place] = p;
                }
            }
            int page = 0;
            int used = 0;
            for (int i = 0; i < book.partCount && i < PART_LIMIT; i++) {
                int p = partByNumber[i];
                int lines = book.lines(p);
                if (used > 0 && used + lines > h) {
                    page++;
                    used = 0;
                }
                used += lines;
                pages[p] = page;
            }
        }

        int flipsOver(int[] pages) {
            int sum = 0;
            for (int from = 0; from < book.partCount && from < PART_LIMIT; from++) {
                for (int to = 0; to < book.partCount && to < PART_LIMIT; to++) {
                    sum += moves[from * PART_LIMIT + to] * Math.abs(pages[from] - pages[to]);
                }
            }
            return sum;
        }
    }

    /** Reads THE TEXT into a draft, up to its first FAULT. */
    private static final class Parser {
        final Book draft = new Book();
        int textLength = 0;
        int faultPlace = NONE;
        private final byte[] text = new byte[TEXT_LIMIT];
        private int at = 0;
        private int faultKind = NO_FAULT;
        private boolean healthIsTold = false;
        private final int[] targets = new int[PART_LIMIT * CHOICE_LIMIT];
        private final int[] targetPlaces = new int[PART_LIMIT * CHOICE_LIMIT];
        private int targetCount = 0;

        void append(byte sign) {
            if (textLength < TEXT_LIMIT) {
                text[textLength] = sign;
                textLength++;
            }
        }

        /** The number of the FAULT, NO_FAULT if the draft is THE BOOK of the text. */
        int parse() {
            at = 0;
            faultKind = NO_FAULT;
            faultPlace = NONE;
            healthIsTold = false;
            targetCount = 0;
            draft.empty();
            pass(0);
            for (int clause = 0; clause < TEXT_LIMIT && at < textLength && faultKind == NO_FAULT; clause++) {
                if (isWord("health")) {
                    readHealth();
                } else if (isWord("part")) {
                    readPart();
                } else {
                    fail(MISPLACED, at);
                }
            }
            checkTargets();
            return faultKind;
        }

        private void readHealth() {
            if (healthIsTold) {
                fail(TOO_MANY, at);
                return;
            }
            healthIsTold = true;
            pass("health".length());
            draft.health = readNumber(1, HEALTH_LIMIT);
            closeClause();
        }

        private void readPart() {
            int p = draft.addPart();
            if (p == NONE) {
                fail(TOO_MANY, at);
                return;
            }
            pass("part".length());
            readEffects(p);
            readEnd(p);
            readChoices(p);
            closeClause();
        }

        private void readEffects(int p) {
            for (int i = 0; i <= EFFECT_LIMIT && faultKind == NO_FAULT; i++) {
                int kind = effectHere();
                if (kind == NONE) {
                    return;
                }
                if (i == EFFECT_LIMIT) {
                    fail(TOO_MANY, at);
                    return;
                }
                pass("take".length());
                boolean ofThing = kind == TAKE || kind == DROP;
                int value = ofThing ? readNumber(0, THING_LIMIT - 1) : readNumber(1, HEALTH_LIMIT);
                draft.addEffect(p, kind, value);
            }
        }

        /** The kind of the EFFECT whose word stands here (each has four letters); NONE. */
        private int effectHere() {
            if (isWord("take")) {
                return TAKE;
            }
            if (isWord("drop")) {
                return DROP;
            }
            if (isWord("hurt")) {
                return HURT;
            }
            return isWord("heal") ? HEAL : NONE;
        }

        /** An end other than CHOICES. */
        private void readEnd(int p) {
            if (faultKind != NO_FAULT) {
                return;
            }
            if (isWord("win")) {
                pass("win".length());
                draft.end[p] = BY_WIN;
            } else if (isWord("die")) {
                pass("die".length());
                draft.end[p] = BY_DIE;
            } else if (isWord("roll")) {
                pass("roll".length());
                int need = readNumber(2, DIE_FACES);
                int high = readTarget();
                int low = readTarget();
                draft.endByRoll(p, need, high, low);
            }
        }

        private void readChoices(int p) {
            for (int i = 0; i <= CHOICE_LIMIT && faultKind == NO_FAULT; i++) {
                if (draft.end[p] != BY_CHOICES || !isWord("go")) {
                    return;
                }
                if (i == CHOICE_LIMIT) {
                    fail(TOO_MANY, at);
                    return;
                }
                pass("go".length());
                int to = readTarget();
                int with = readThingBehind("with");
                int without = readThingBehind("without");
                draft.addChoice(p, to, with, without);
            }
        }

        private int readThingBehind(String word) {
            if (faultKind != NO_FAULT || !isWord(word)) {
                return NONE;
            }
            pass(word.length());
            return readNumber(0, THING_LIMIT - 1);
        }

        private int readTarget() {
            int place = at;
            int to = readNumber(0, PART_LIMIT - 1);
            if (faultKind == NO_FAULT && targetCount < targets.length) {
                targets[targetCount] = to;
                targetPlaces[targetCount] = place;
                targetCount++;
            }
            return to;
        }

        private int readNumber(int least, int most) {
            if (faultKind != NO_FAULT) {
                return least;
            }
            int figures = 0;
            int value = 0;
            for (int i = at; i < textLength && text[i] >= '0' && text[i] <= '9'; i++) {
                figures++;
                if (figures <= 2) {
                    value = value * 10 + (text[i] - '0');
                }
            }
            if (figures == 0) {
                fail(MISPLACED, at);
                return least;
            }
            if (figures > 2 || value < least || value > most) {
                fail(BAD_NUMBER, at);
                return least;
            }
            pass(figures);
            return value;
        }

        private void closeClause() {
            if (faultKind != NO_FAULT) {
                return;
            }
            if (at < textLength && text[at] == ';') {
                pass(1);
            } else {
                fail(MISPLACED, at);
            }
        }

        /** PARTS told later may be gone to, so this waits for the end of a text that has no other FAULT. */
        private void checkTargets() {
            for (int i = 0; i < targetCount && faultKind == NO_FAULT; i++) {
                if (!draft.hasPart(targets[i])) {
                    fail(NO_SUCH_PART, targetPlaces[i]);
                }
            }
        }

        private boolean isWord(String word) {
            int letters = 0;
            for (int i = at; i < textLength && text[i] >= 'a' && text[i] <= 'z'; i++) {
                letters++;
            }
            if (letters != word.length()) {
                return false;
            }
            for (int i = 0; i < letters; i++) {
                if (text[at + i] != word.charAt(i)) {
                    return false;
                }
            }
            return true;
        }

        /** Goes on behind so many bytes and the blanks that follow them. */
        private void pass(int bytes) {
            at += bytes;
            for (int i = at; i < textLength && text[i] == ' '; i++) {
                at++;
            }
        }

        private void fail(int kind, int place) {
            if (faultKind == NO_FAULT) {
                faultKind = kind;
                faultPlace = place;
            }
        }
    }

    /** The STATES (LOST ones not) that can be come to from some first ones, and the ways between them. */
    private static final class StateGraph {
        private static final int SLOTS_OF_PART = 256 * HEALTH_LIMIT;
        private static final int STATE_LIMIT = PART_LIMIT * SLOTS_OF_PART;

        int begunSize = 0;
        int begunParts = 0;
        boolean begunWon = false;
        private final Book book;
        private int size = 0;
        private int wayCount = 0;
        private int arrivedParts = 0;
        private int[] states = new int[64];
        private int[] firstWay = new int[65];
        private int[] ways = new int[256];
        // By what a STATE is: one more than the place among the states, 0 for a STATE that was not come to.
        private int[] placeBySlot = new int[0];
        private int[] odds = new int[64];
        private int[] nextOdds = new int[64];
        private int oddsTurns = NONE;
        private boolean oddsSettled = false;
        private int[] turnsToWin = new int[64];
        private boolean winsMeasured = false;

        StateGraph(Book book) {
            this.book = book;
        }

        /** From the BEGINNING, as if a THING were not to be had, or nobody could go to a PART (NONE: neither). */
        void build(int noThing, int noPart, boolean untilWon) {
            forget();
            begunWon = false;
            if (book.hasPart(0) && noPart != 0) {
                arrivedParts = 1;
                meet(book.beginning(noThing));
                begunWon = spread(0, noThing, noPart, untilWon);
            }
            begunSize = size;
            begunParts = arrivedParts;
        }

        /** The place of a STATE (NONE for LOST); one that is not COME TO, since CHOICES have changed, is put in. */
        int include(int state) {
            int before = size;
            int place = meet(state);
            if (size > before) {
                spread(before, NONE, NONE, false);
                forgetResults();
            }
            return place;
        }

        /** The place of a STATE; NONE. */
        int find(int state) {
            int slot = slotOf(state);
            if (State.fateOf(state) == LOST || slot < 0 || slot >= placeBySlot.length) {
                return NONE;
            }
            return placeBySlot[slot] - 1;
        }

        void runTurns(int t) {
            if (oddsTurns == NONE || oddsTurns > t) {
                startOdds();
            }
            for (int turn = oddsTurns; turn < t && !oddsSettled; turn++) {
                runOneTurn();
            }
        }

        int oddsOf(int place) {
            return place >= 0 && place < size ? odds[place] : 0;
        }

        void measureWins() {
            if (winsMeasured) {
                return;
            }
            turnsToWin = roomForAll(turnsToWin);
            for (int i = 0; i < size; i++) {
                turnsToWin[i] = hasWon(i) ? 0 : NONE;
            }
            boolean more = true;
            for (int turn = 1; turn <= size && more; turn++) {
                more = false;
                for (int i = 0; i < size; i++) {
                    if (turnsToWin[i] == NONE && leadsTo(i, turn - 1)) {
                        turnsToWin[i] = turn;
                        more = true;
                    }
                }
            }
            winsMeasured = true;
        }

        /** The least TURNS to WON by luck; NONE. To be measured first. */
        int turnsToWinOf(int place) {
            return place >= 0 && place < size ? turnsToWin[place] : NONE;
        }

        int trapParts() {
            measureWins();
            int set = 0;
            for (int i = 0; i < begunSize; i++) {
                if (turnsToWin[i] == NONE) {
                    set |= 1 << State.partOf(states[i]);
                }
            }
            return set;
        }

        int holeParts() {
            int set = 0;
            for (int i = 0; i < begunSize; i++) {
                if (firstWay[i] == firstWay[i + 1] && !hasWon(i)) {
                    set |= 1 << State.partOf(states[i]);
                }
            }
            return set;
        }

        int hadThings() {
            int set = 0;
            for (int i = 0; i < begunSize; i++) {
                set |= State.thingsOf(states[i]);
            }
            return set;
        }

        private static int slotOf(int state) {
            return (state >> 6) * HEALTH_LIMIT + (state >> 2 & 15) - 1;
        }

        private boolean hasWon(int i) {
            return State.fateOf(states[i]) == WON;
        }

        private void forget() {
            for (int i = 0; i < size; i++) {
                int slot = slotOf(states[i]);
                if (slot >= 0 && slot < placeBySlot.length) {
                    placeBySlot[slot] = 0;
                }
            }
            int slots = book.partCount * SLOTS_OF_PART;
            if (placeBySlot.length < slots) {
                placeBySlot = new int[slots];
            }
            size = 0;
            wayCount = 0;
            arrivedParts = 0;
            forgetResults();
        }

        private void forgetResults() {
            oddsTurns = NONE;
            winsMeasured = false;
        }

        /** Follows all ways from the STATES at a place and on; whether one of them has WON. */
        private boolean spread(int first, int noThing, int noPart, boolean untilWon) {
            boolean won = false;
            for (int i = first; i < size && i < STATE_LIMIT; i++) {
                int state = states[i];
                won = won || State.fateOf(state) == WON;
                if (won && untilWon) {
                    return true;
                }
                firstWay[i] = wayCount;
                int all = book.waysFrom(State.partOf(state));
                for (int k = 0; k < all; k++) {
                    int to = book.wayOut(state, k);
                    if (to != NONE && to != noPart) {
                        arrivedParts |= 1 << to;
                        addWay(meet(book.goOn(state, to, noThing)));
                    }
                }
                firstWay[i + 1] = wayCount;
            }
            return won;
        }

        /** The place of a STATE, which is put in if it is new; NONE for LOST. */
        private int meet(int state) {
            int place = find(state);
            int slot = slotOf(state);
            if (place != NONE || State.fateOf(state) == LOST) {
                return place;
            }
            if (size >= STATE_LIMIT || slot < 0 || slot >= placeBySlot.length) {
                return NONE;
            }
            if (size >= states.length) {
                int room = Math.min(STATE_LIMIT, 2 * states.length);
                states = Arrays.copyOf(states, room);
                firstWay = Arrays.copyOf(firstWay, room + 1);
            }
            states[size] = state;
            size++;
            placeBySlot[slot] = size;
            return size - 1;
        }

        private void addWay(int place) {
            if (wayCount >= ways.length) {
                ways = Arrays.copyOf(ways, 2 * ways.length);
            }
            ways[wayCount] = place;
            wayCount++;
        }

        /** The row itself or a new one, with room for every STATE; what stood in it is not kept. */
        private int[] roomForAll(int[] row) {
            return row.length >= size ? row : new int[states.length];
        }

        private void startOdds() {
            odds = roomForAll(odds);
            nextOdds = roomForAll(nextOdds);
            for (int i = 0; i < size; i++) {
                odds[i] = hasWon(i) ? MILLION : 0;
            }
            oddsTurns = 0;
            oddsSettled = false;
        }

        private void runOneTurn() {
            boolean changed = false;
            for (int i = 0; i < size; i++) {
                int next = oddsBehindTurn(i);
                changed = changed || next != odds[i];
                nextOdds[i] = next;
            }
            int[] spare = odds;
            odds = nextOdds;
            nextOdds = spare;
            oddsTurns++;
            // ODDS that one more TURN leaves alone are left alone by all later ones.
            oddsSettled = !changed;
        }

        private int oddsBehindTurn(int i) {
            if (hasWon(i)) {
                return MILLION;
            }
            int from = firstWay[i];
            int p = State.partOf(states[i]);
            if (book.isRoll(p) && firstWay[i + 1] - from == 2) {
                int need = book.rollNeed[p];
                int high = (DIE_FACES + 1 - need) * oddsOf(ways[from]);
                int low = (need - 1) * oddsOf(ways[from + 1]);
                return (high + low) / DIE_FACES;
            }
            int best = 0;
            for (int w = from; w < firstWay[i + 1]; w++) {
                best = Math.max(best, oddsOf(ways[w]));
            }
            return best;
        }

        private boolean leadsTo(int i, int turns) {
            for (int w = firstWay[i]; w < firstWay[i + 1]; w++) {
                if (turnsToWinOf(ways[w]) == turns) {
                    return true;
                }
            }
            return false;
        }
    }
}
