/** NUMBERS, PAGES, draws, images: the boundary cases' sentences of term 4 and of promises 25 to 33, one by one. */
public final class EdgePagesTest {
    private static final int NONE = Doc.NONE, UNKNOWN = Doc.UNKNOWN, OUTSIDE = Doc.OUTSIDE, NOT = Doc.NOT;
    private static final int LOW = Doc.LOW, HIGH = Doc.HIGH;
    /** 18 LINES, the most that a PART can have. */
    private static final String WIDE = "part take 0 take 0 take 0 take 0 go 0 go 0 go 0 go 0 go 0 go 0;";

    public static void main(String[] args) {
        linked();
        draws();
        shuffled();
        triesGoOn();
        pages();
        flipsSum();
        blindReaders();
        imagesKeep();
        number();
        near();
        shuffle();
        page();
        flips();
        seed();
        blind();
        keep();
        goBack();
        Doc.end(25, 33);
    }

    private static void linked() {
        Doc.term(4, "NUMBERS of PARTS are 1 and on (at first each its own and 1)");
        ChoiceBook x = Check.told("part;".repeat(24));
        for (int p = 0; p < 24; p++) {
            Doc.due("number " + p, x.number(p), p + 1);
        }
        Doc.term(4, "LINKED are two unlike PARTS, if one can go from the one to the other by a CHOICE or a roll (whatever one has).");
        Doc.due("itself", Check.told("part go 0;").near(24), 0);
        Doc.due("itself by a roll", Check.told("part roll 2 0 0;").near(24), 0);
        Doc.due("by a CHOICE that is never OPEN", Check.told("part go 1 with 0 without 0;part;").near(24), 1);
        Doc.due("by both ways of a roll", Check.told("part roll 2 1 2;part;part;").near(24), 2);
        Doc.due("from PARTS that nobody comes to", Check.told("part;part go 2;part;").near(24), 1);
        Doc.due("backwards", Check.told("part;part go 0;").near(24), 1);
        Doc.term(4, "NEAR by d are LINKED pairs (each once) whose NUMBERS are less than d apart.");
        Doc.due("there and back", Check.told("part go 1 go 1;part go 0;").near(24), 1);
        Doc.due("by a roll both times", Check.told("part roll 2 1 1;part;").near(24), 1);
        ChoiceBook far = Check.told("part go 3;part;part;part;");
        Doc.due("3 apart, by 3", far.near(3), 0);
        Doc.due("3 apart, by 4", far.near(4), 1);
        Doc.due("none by 1", Check.told("part go 1;part;").near(1), 0);
        ChoiceBook ends = Check.told("part go 23;" + "part;".repeat(23));
        Doc.due("23 apart, by 23", ends.near(23), 0);
        Doc.due("23 apart, by 24", ends.near(24), 1);
        ChoiceBook shorter = Check.told("part go 1;part go 2;part go 0 go 1;part go 0 go 1 go 2;");
        Doc.due("all linked", shorter.near(24), 6);
        Check.feed(shorter, "part;part;part;").book();
        Doc.due("a shorter book", shorter.near(24), 0);
    }

    private static long next(long seed) {
        return (seed * 1103515245L + 12345L) % 2147483648L;
    }

    private static long drawn(long seed, int times) {
        long s = seed;
        for (int i = 0; i < times; i++) {
            s = next(s);
        }
        return s;
    }

    private static void draws() {
        Doc.term(4, "THE SEED (0 at first: each DRAW it becomes it times 1103515245 and 12345, left over by 2 to the 31");
        ChoiceBook x = Check.told("part roll 2 0 0;");
        x.begin();
        Doc.due("0 at first", x.seed(0), 0);
        for (long seed : new long[] {0, 1, 2, 65535, 65536, 1073741823, 1073741824, 2147483646, 2147483647}) {
            x.seed((int) seed);
            x.roll(NONE);
            Doc.due("from " + seed, x.seed(0), next(seed));
        }
        x.seed(HIGH);
        x.roll(NONE);
        Doc.due("from the greatest", x.seed(0), 1043980748);
        Doc.term(4, "the DRAW of n is it / 65536, left over by n");
        ChoiceBook die = Check.told("part roll 6 1 2;part win;part roll 5 3 4;part win;part die;");
        for (int seed = 0; seed < 40; seed++) {
            die.begin();
            die.seed(seed);
            die.roll(NONE);
            Doc.due("a 6 from " + seed, die.now(0), next(seed) / 65536 % 6 + 1 >= 6 ? 1 : 2);
        }
    }

    private static void shuffled() {
        Doc.term(4, "from the last PART to the third but the first (PART 2), PART k changes NUMBERS with PART 1 and a DRAW of k");
        ChoiceBook x = Check.told("part go 1;part;part;");
        // One DRAW of 2 from 0: 0, so PART 2 changes with PART 1.
        Doc.due("three PARTS", x.shuffle(2, 1), 0);
        numbersAre(x, 1, 3, 2);
        Doc.due("one DRAW", x.seed(0), 12345);
        // DRAWS of 3 and 2 from 0: 0 (3 with 1), 21468 left over by 2 is 0 (2 with 1).
        x = Check.told("part go 1;part;part;part;");
        Doc.due("four PARTS", x.shuffle(2, 1), 0);
        numbersAre(x, 1, 3, 4, 2);
        Doc.due("two DRAWS", x.seed(0), drawn(0, 2));
        for (int parts = 0; parts <= 2; parts++) {
            ChoiceBook few = Check.told("part;".repeat(parts));
            Doc.due(parts + " PARTS", few.shuffle(24, 99), 0);
            Doc.due("no DRAW", few.seed(0), 0);
        }
        ChoiceBook most = Check.told("part;".repeat(24));
        most.shuffle(24, 1);
        Doc.due("22 DRAWS", most.seed(0), drawn(0, 22));
        Doc.term(4, "NUMBERS with the fewest NEAR of all n (and those of before) stay, of like ones the earliest");
        x = Check.told("part go 1;part;part;part;");
        Doc.due("as few as before", x.shuffle(1, 99), 0);
        numbersAre(x, 1, 2, 3, 4);
        Doc.due("DRAWS all the same", x.seed(0), drawn(0, 198));
        Doc.due("the first try is the best", x.shuffle(2, 99), 0);
        numbersAre(x, 1, 3, 4, 2);
        Doc.due("as few as before", x.shuffle(2, 99), 0);
        numbersAre(x, 1, 3, 4, 2);
    }

    private static void numbersAre(ChoiceBook x, int... numbers) {
        for (int p = 0; p < numbers.length; p++) {
            Doc.due("NUMBER of " + p, x.number(p), numbers[p]);
        }
    }

    private static void triesGoOn() {
        Doc.term(4, "n times: from NUMBERS as they are then");
        String ring = "part go 1;part go 2;part go 3;part go 4;part go 5;part go 6;part go 7;part go 0;";
        boolean later = false;
        for (int seed = 0; seed < 30; seed++) {
            ChoiceBook x = Check.told(ring);
            x.seed(seed);
            int[] best = {1, 2, 3, 4, 5, 6, 7, 8};
            int[] numbers = best.clone();
            long s = seed;
            for (int i = 0; i < 9; i++) {
                for (int k = 7; k >= 2; k--) {
                    s = next(s);
                    int j = 1 + (int) (s / 65536 % k);
                    int n = numbers[k];
                    numbers[k] = numbers[j];
                    numbers[j] = n;
                }
                later |= i > 0 && ringNear(numbers) < ringNear(best);
                best = ringNear(numbers) < ringNear(best) ? numbers.clone() : best;
            }
            Doc.due("shuffle from " + seed, x.shuffle(3, 9), ringNear(best));
            numbersAre(x, best);
            Doc.due("the seed", x.seed(0), s);
        }
        Doc.due("a later try is the best, once at least", later ? 1 : 0, 1);
    }

    private static int ringNear(int[] numbers) {
        int pairs = 0;
        for (int p = 0; p < numbers.length; p++) {
            pairs += Math.abs(numbers[p] - numbers[(p + 1) % numbers.length]) < 3 ? 1 : 0;
        }
        return pairs;
    }

    private static void pagesAre(ChoiceBook x, int h, int... pages) {
        for (int p = 0; p < pages.length; p++) {
            Doc.due("page(" + p + ", " + h + ")", x.page(p, h), pages[p]);
        }
    }

    private static void pages() {
        Doc.term(4, "PAGES have h LINES (10 .. 60): PARTS by NUMBERS one behind the other, none parted");
        ChoiceBook x = Check.told("part;".repeat(24));
        for (int p = 0; p < 24; p++) {
            Doc.due("five of 2 LINES fill 10", x.page(p, 10), p / 5);
            Doc.due("five of 2 LINES, 11", x.page(p, 11), p / 5);
            Doc.due("six fill 12", x.page(p, 12), p / 6);
            Doc.due("24 are 48", x.page(p, 48), 0);
            Doc.due("60", x.page(p, 60), 0);
        }
        Doc.due("47 are too few", x.page(23, 47), 1);
        ChoiceBook turned = Check.told("part go 1 go 1 go 1 go 1;part;part go 1 go 1 go 1 go 1;");
        pagesAre(turned, 10, 0, 1, 2);
        pagesAre(turned, 12, 0, 0, 1);
        turned.shuffle(2, 1);
        numbersAre(turned, 1, 3, 2);
        pagesAre(turned, 10, 0, 2, 1);
        pagesAre(turned, 12, 0, 1, 1);
        Doc.term(4, "one that does not fit behind others goes on the next PAGE (one of more than h LINES has one of its own)");
        ChoiceBook y = Check.told("part;" + WIDE + "part;part;");
        pagesAre(y, 10, 0, 1, 2, 2);
        pagesAre(y, 17, 0, 1, 2, 2);
        pagesAre(y, 18, 0, 1, 2, 2);
        pagesAre(y, 19, 0, 1, 2, 2);
        pagesAre(y, 20, 0, 0, 1, 1);
        pagesAre(y, 22, 0, 0, 0, 1);
        pagesAre(y, 24, 0, 0, 0, 0);
        ChoiceBook first = Check.told(WIDE + WIDE + "part;");
        pagesAre(first, 10, 0, 1, 2);
        pagesAre(first, 18, 0, 1, 2);
        pagesAre(first, 36, 0, 0, 1);
        pagesAre(first, 38, 0, 0, 0);
    }

    private static void flipsSum() {
        Doc.term(4, "FLIPS of what was read since one BEGAN: the sum of differences of PAGES from PART to PART.");
        ChoiceBook x = Check.told("part go 0 go 1 go 2 go 3;part go 0 go 0 go 0 go 0;part go 0 go 0 go 0 go 0;part roll 2 0 3;");
        x.begin();
        Doc.due("PART 0 alone", x.flips(10), 0);
        x.choose(0);
        Doc.due("to itself", x.flips(10), 0);
        x.choose(2);
        Doc.due("two on", x.flips(10), 2);
        x.choose(0);
        Doc.due("two back", x.flips(10), 4);
        x.choose(3);
        x.roll(1);
        x.roll(6);
        Doc.due("by a roll", x.flips(10), 10);
        Doc.due("two a PAGE", x.flips(20), 4);
        Doc.due("one PAGE", x.flips(60), 0);
        x.begin();
        Doc.due("since one BEGAN", x.flips(10), 0);
    }

    private static void blindReaders() {
        Doc.term(4, "takes of CHOICES that are OPEN that one which a DRAW of how many there are tells, at a roll goes by a DRAW of 6 and 1");
        ChoiceBook one = Check.told("part go 1 with 0 go 2 go 1 with 1;part die;part win;");
        Doc.due("the only OPEN one", one.blind(99), 99);
        Doc.due("a DRAW of 1 is one", one.seed(0), drawn(0, 99));
        ChoiceBook first = Check.told("part go 1 go 2 go 2 with 0;part win;part die;");
        ChoiceBook two = Check.told("part go 1 with 0 go 1 go 1 with 0 go 2;part die;part win;");
        ChoiceBook die = Check.told("part roll 4 1 2;part win;part die;");
        for (int seed = 0; seed < 20; seed++) {
            two.seed(seed);
            Doc.due("of two from " + seed, two.blind(1), next(seed) / 65536 % 2);
            first.seed(seed);
            Doc.due("the first of two from " + seed, first.blind(1), 1 - next(seed) / 65536 % 2);
            die.seed(seed);
            Doc.due("a roll from " + seed, die.blind(1), next(seed) / 65536 % 6 + 1 >= 4 ? 1 : 0);
        }
        Doc.term(4, "to WON, LOST, STUCK, or 60 TURNS");
        String[] over = {"part win;", "part die;", "part hurt 9 go 0;", "part;", "part go 0 with 0;"};
        for (String text : over) {
            ChoiceBook x = Check.told(text);
            Doc.due(text, x.blind(9), text.contains("win") ? 9 : 0);
            Doc.due("no DRAW", x.seed(0), 0);
        }
        ChoiceBook ring = Check.told("part go 0;");
        Doc.due("for ever", ring.blind(2), 0);
        Doc.due("60 TURNS each", ring.seed(0), drawn(0, 120));
        ChoiceBook rolls = Check.told("part roll 2 0 0;");
        rolls.blind(1);
        Doc.due("60 rolls", rolls.seed(0), drawn(0, 60));
        Doc.due("a win at the 60th", line(20).blind(1), 1);
        Doc.due("a win at the 61st", line(21).blind(1), 0);
    }

    /** Two rounds of 20 TURNS, told apart by THINGS 0 and 1, then some 20 TURNS to the win: 40 and that many. */
    private static ChoiceBook line(int behind) {
        StringBuilder text = new StringBuilder();
        for (int p = 0; p < 18; p++) {
            text.append("part go ").append(p + 1).append(";");
        }
        text.append("part go 19 without 0 go 20 with 0 without 1 go 21 with 1;");
        text.append("part take 0 go 0;part take 1 go 0;");
        return Check.told(text.append(behind == 20 ? "part go 23;part;part win;" : "part go 22;part go 23;part win;").toString());
    }

    private static void imagesKeep() {
        Doc.term(4, "IMAGES 0, 1 keep PARTS, the told HEALTH, NUMBERS, THE SEED, where one is and what was read (not THE LOG).");
        ChoiceBook x = Check.told("health 7;part go 1;part take 3 hurt 1 go 0 go 2;part roll 2 0 0;part go 1;");
        x.begin();
        x.choose(0);
        x.choose(1);
        x.shuffle(2, 9);
        x.seed(77);
        x.log(0);
        int[] numbers = {x.number(0), x.number(1), x.number(2), x.number(3)};
        int flips = x.flips(10);
        x.keep(1);
        x.feed(1, 32);
        Doc.due("another book", Check.feed(x, "health 2;part;part;").book(), 2);
        x.keep(0);
        x.seed(5);
        x.begin();
        x.log(1);
        x.log(1);
        x.feed(3, 0x202020);
        Doc.due("back", x.goBack(1), 1);
        Doc.due("PARTS", x.count(0), 4);
        Doc.due("CHOICES", x.count(1), 4);
        Doc.due("EFFECTS", x.effect(1, 0, 1), 3);
        Doc.due("a roll", x.part(2, 4), 2);
        Doc.due("health", x.count(2), 7);
        numbersAre(x, numbers);
        int[] is = {2, 8, 6, 2, 0, 0};
        for (int what = 0; what < 6; what++) {
            Doc.due("now(" + what + ")", x.now(what), is[what]);
        }
        Doc.due("what was read", x.flips(10), flips);
        Doc.due("the log", x.count(3), 2);
        Doc.due("the text", x.count(4), 3);
        Doc.due("the seed", x.seed(5), 77);
        Doc.due("the other", x.goBack(0), 1);
        Doc.due("PARTS of the other", x.count(0), 2);
        Doc.due("health of the other", x.count(2), 2);
        Doc.due("not begun in the other", x.now(0), NOT);
        Doc.due("the seed of the other", x.seed(5), 77);
        numbersAre(x, 1, 2);
        lastOfAll();
    }

    /** The last PART has as much in an IMAGE as the first. */
    private static void lastOfAll() {
        ChoiceBook x = Check.told("part go 23;" + "part;".repeat(21) + "part roll 6 21 20;"
            + "part take 7 drop 6 hurt 1 heal 9 go 0 go 1 go 2 go 3 go 4 go 22 with 7 without 6;");
        x.begin();
        x.choose(0);
        x.choose(0);
        x.choose(0);
        x.choose(5);
        int flips = x.flips(10);
        Doc.due("there, back, there, one back", flips, 3 * (x.page(23, 10) - x.page(0, 10)) + 1);
        x.keep(0);
        Check.feed(x, "part go 0;".repeat(24)).book();
        x.begin();
        x.goBack(0);
        for (int i = 0; i < 4; i++) {
            Doc.due("EFFECT " + i, x.effect(23, i, 0), i);
        }
        int[] values = {7, 6, 1, 9};
        for (int i = 0; i < 4; i++) {
            Doc.due("EFFECT " + i, x.effect(23, i, 1), values[i]);
        }
        int[] row = {22, 7, 6};
        for (int what = 0; what < 3; what++) {
            Doc.due("CHOICE 5", x.choice(23, 5, what), row[what]);
        }
        int[] roll = {6, 21, 20};
        for (int what = 0; what < 3; what++) {
            Doc.due("the roll", x.part(22, 4 + what), roll[what]);
        }
        Doc.due("what was read", x.flips(10), flips);
        Doc.due("a THING", x.now(1), 128);
        Doc.due("to Q", x.roll(5), 3);
        Doc.due("to Q", x.now(0), 20);
    }

    private static void number() {
        Doc.promise(25, "The NUMBER of a PART. UNKNOWN.");
        ChoiceBook x = Check.told("part;part;");
        Doc.due("the first", x.number(0), 1);
        Doc.due("the last", x.number(1), 2);
        Doc.all("no such PART", UNKNOWN, x.number(-1), x.number(2), x.number(24), x.number(LOW), x.number(HIGH));
        Doc.due("no PARTS", new ChoiceBook().number(0), UNKNOWN);
    }

    private static void near() {
        Doc.promise(26, "NEAR by d (1 .. 24): how many. OUTSIDE.");
        ChoiceBook x = Check.told("part go 1;part;");
        Doc.due("1", x.near(1), 0);
        Doc.due("2", x.near(2), 1);
        Doc.due("24", x.near(24), 1);
        Doc.all("d too small or too large", OUTSIDE, x.near(0), x.near(25), x.near(-1), x.near(LOW), x.near(HIGH));
        ChoiceBook none = new ChoiceBook();
        Doc.all("no PARTS", 0, none.near(1), none.near(24));
        Doc.all("no PARTS", OUTSIDE, none.near(0), none.near(25));
    }

    private static void shuffle() {
        Doc.promise(27, "SHUFFLED by d (1 .. 24), n (1 .. 99): how many are NEAR then. OUTSIDE.");
        ChoiceBook x = Check.told("part go 1;part;part;");
        Doc.all("d too small or too large", OUTSIDE, x.shuffle(0, 1), x.shuffle(25, 1), x.shuffle(-1, 1), x.shuffle(LOW, 1), x.shuffle(HIGH, 1));
        Doc.all("n too small or too large", OUTSIDE, x.shuffle(1, 0), x.shuffle(1, 100), x.shuffle(1, -1), x.shuffle(1, LOW), x.shuffle(1, HIGH));
        Doc.due("no DRAW", x.seed(0), 0);
        numbersAre(x, 1, 2, 3);
        Doc.due("by 1, once", x.shuffle(1, 1), 0);
        Doc.due("one DRAW", x.seed(0), 12345);
        Doc.due("by 24, 99 times", x.shuffle(24, 99), 1);
        Doc.due("99 DRAWS", x.seed(0), drawn(0, 99));
        Doc.all("no PARTS", OUTSIDE, new ChoiceBook().shuffle(0, 1), new ChoiceBook().shuffle(1, 100));
    }

    private static void page() {
        Doc.promise(28, "The PAGE of a PART. UNKNOWN, OUTSIDE.");
        ChoiceBook x = Check.told("part;part;");
        Doc.all("from 0 on", 0, x.page(0, 10), x.page(1, 60));
        Doc.all("no such PART", UNKNOWN, x.page(-1, 10), x.page(2, 10), x.page(LOW, 10), x.page(HIGH, 10));
        Doc.all("h too small or too large", OUTSIDE, x.page(0, 9), x.page(1, 61), x.page(0, 0), x.page(0, LOW), x.page(0, HIGH));
        Doc.all("UNKNOWN ahead of OUTSIDE", UNKNOWN, x.page(-1, 9), x.page(2, 61), new ChoiceBook().page(0, 9));
    }

    private static void flips() {
        Doc.promise(29, "FLIPS. OUTSIDE, NOT: one has not begun.");
        ChoiceBook x = Check.told("part;");
        Doc.all("not begun", NOT, x.flips(10), x.flips(60), new ChoiceBook().flips(10));
        Doc.all("OUTSIDE ahead of NOT", OUTSIDE, x.flips(9), x.flips(61), new ChoiceBook().flips(9));
        x.begin();
        Doc.all("begun", 0, x.flips(10), x.flips(60));
        Doc.all("h too small or too large", OUTSIDE, x.flips(9), x.flips(61), x.flips(-1), x.flips(LOW), x.flips(HIGH));
    }

    private static void seed() {
        Doc.promise(30, "THE SEED becomes v (0 .. 2147483647): what it was. OUTSIDE.");
        ChoiceBook x = new ChoiceBook();
        Doc.due("0 at first", x.seed(HIGH), 0);
        Doc.due("the greatest", x.seed(0), HIGH);
        Doc.due("the least", x.seed(1), 0);
        Doc.all("too small", OUTSIDE, x.seed(-1), x.seed(LOW));
        Doc.due("as it was", x.seed(2), 1);
    }

    private static void blind() {
        Doc.promise(31, "n BLIND readers (1 .. 99): how many have WON (where one is stays as it is). OUTSIDE, NOT: there are no PARTS.");
        ChoiceBook x = Check.told("part go 1;part go 2;part win;");
        Doc.due("1", x.blind(1), 1);
        Doc.due("99", x.blind(99), 99);
        Doc.due("not begun", x.now(0), NOT);
        x.begin();
        x.choose(0);
        x.blind(9);
        Doc.due("where one is", x.now(0), 1);
        Doc.due("TURNS", x.now(3), 1);
        Doc.all("n too small or too large", OUTSIDE, x.blind(0), x.blind(100), x.blind(-1), x.blind(LOW), x.blind(HIGH));
        ChoiceBook none = new ChoiceBook();
        Doc.all("no PARTS", NOT, none.blind(1), none.blind(99));
        Doc.all("OUTSIDE ahead of NOT", OUTSIDE, none.blind(0), none.blind(100));
    }

    private static void keep() {
        Doc.promise(32, "IMAGE i becomes what is so: 1. UNKNOWN.");
        ChoiceBook x = new ChoiceBook();
        Doc.all("no such IMAGE", UNKNOWN, x.keep(-1), x.keep(2), x.keep(LOW), x.keep(HIGH));
        Doc.all("neither was kept", NOT, x.goBack(0), x.goBack(1));
        Doc.due("of no PARTS", x.keep(0), 1);
        Check.feed(x, "part;").book();
        Doc.due("of a PART", x.keep(1), 1);
        Doc.due("back", x.goBack(0), 1);
        Doc.due("no PARTS", x.count(0), 0);
        Doc.due("back", x.goBack(1), 1);
        Doc.due("a PART", x.count(0), 1);
        Doc.due("kept anew", x.keep(0), 1);
        x.book();
        Doc.due("back", x.goBack(0), 1);
        Doc.due("a PART", x.count(0), 1);
    }

    private static void goBack() {
        Doc.promise(33, "What is so becomes IMAGE i: 1. UNKNOWN, NOT: it was not kept.");
        ChoiceBook x = Check.told("part go 0;");
        Doc.all("no such IMAGE", UNKNOWN, x.goBack(-1), x.goBack(2), x.goBack(LOW), x.goBack(HIGH));
        Doc.all("not kept", NOT, x.goBack(0), x.goBack(1));
        x.keep(0);
        Doc.due("the other was not kept", x.goBack(1), NOT);
        x.link(0, 0, NONE, NONE);
        x.begin();
        Doc.due("back", x.goBack(0), 1);
        Doc.due("CHOICES", x.count(1), 1);
        Doc.due("not begun", x.now(0), NOT);
        x.unlink(0, 0);
        Doc.due("the IMAGE is as it was kept", x.goBack(0), 1);
        Doc.due("CHOICES", x.count(1), 1);
        Doc.due("STATES of the book of now", x.count(5), 1);
        Doc.due("no HOLE any more", x.parts(3), 0);
    }
}
