/** Each promise by itself: ordinary calls, the edges that the document names, wrong inputs. */
public final class PromiseTest {
    private static final int NONE = -1, UNKNOWN = -1000001, OUTSIDE = -1000002, NOT = -1000003, FULL = -1000004;
    private static final int LOW = Integer.MIN_VALUE, HIGH = Integer.MAX_VALUE;

    /** 0 hub, 1 has a THING, 2 a roll, 3 wins with it, 4 dies, 5 wounds. */
    private static final String TALE = "health 3;part go 1 go 2 go 5;part take 4 go 0 without 4 go 2;"
        + "part roll 5 3 5;part win;part die;part hurt 2 heal 1 go 0 go 3 with 4 without 2 go 4;";

    private static String promise = "";

    private static void due(String call, long got, long want) {
        Check.due(promise + ": " + call, got, want);
    }

    private static void refused(String call, long want, long... got) {
        for (int i = 0; i < got.length; i++) {
            due(call + " no. " + i, got[i], want);
        }
    }

    public static void main(String[] args) {
        newObject();
        feed();
        book();
        bookKeeps();
        fault();
        part();
        effect();
        choice();
        link();
        unlink();
        count();
        begin();
        choose();
        roll();
        now();
        odds();
        advice();
        fewest();
        surely();
        parts();
        must();
        things();
        without();
        logAndClear();
        judge();
        number();
        near();
        shuffle();
        page();
        flips();
        seed();
        blind();
        images();
        Check.end();
    }

    private static void newObject() {
        promise = "1";
        ChoiceBook x = new ChoiceBook();
        due("count(0)", x.count(0), 0);
        due("count(1)", x.count(1), 0);
        due("count(2)", x.count(2), 5);
        due("count(3)", x.count(3), 0);
        due("count(4)", x.count(4), 0);
        due("count(5)", x.count(5), 0);
        due("fault", x.fault(), NONE);
        due("judge", x.judge(), NONE);
        due("clear", x.clear(), 0);
        due("near", x.near(24), 0);
        due("shuffle", x.shuffle(24, 99), 0);
        due("seed is 0, no DRAW by a shuffle without PARTS", x.seed(0), 0);
        for (int what = 0; what < 4; what++) {
            due("parts", x.parts(what), 0);
        }
        due("things", x.things(0), 0);
        due("things", x.things(1), 0);
        refused("no PARTS", UNKNOWN, x.part(0, 0), x.effect(0, 0, 0), x.choice(0, 0, 0), x.link(0, 0, -1, -1),
            x.unlink(0, 0), x.log(0), x.number(0), x.page(0, 10), x.part(0, 9), x.page(0, 9));
        refused("not begun", NOT, x.begin(), x.choose(0), x.roll(1), x.roll(-1), x.now(0), x.odds(0), x.advice(1),
            x.fewest(), x.surely(), x.without(0, 0), x.flips(10), x.blind(1), x.goBack(0), x.goBack(1));
    }

    private static void feed() {
        promise = "2";
        ChoiceBook x = new ChoiceBook();
        refused("feed", OUTSIDE, x.feed(0, 0), x.feed(9, 0), x.feed(-1, 0), x.feed(LOW, 0), x.feed(HIGH, 0));
        // 'part;' as the lowest five bytes; those above them do not count.
        due("feed", x.feed(5, 0x414243706172743BL), 5);
        due("count", x.count(4), 5);
        due("book", x.book(), 1);
        due("by one byte", x.feed(1, 0x7070L), 1);
        due("behind it", x.feed(4, 0x6172743BL), 5);
        due("book", x.book(), 1);
        due("all eight", x.feed(8, 0x20206172743B2020L), 8);
        due("all eight", x.book(), -11);
        due("all eight", x.fault(), 2);
        for (int i = 1; i <= 74; i++) {
            due("feed", x.feed(8, 0x2020202020202020L), 8 * i);
        }
        due("feed", x.feed(7, 0x20202020202020L), 599);
        due("full", x.feed(2, 0x2020L), FULL);
        due("outside before full", x.feed(9, 0x2020L), OUTSIDE);
        due("count", x.count(4), 599);
        due("feed", x.feed(1, 0x20L), 600);
        due("full", x.feed(1, 0x20L), FULL);
        due("blanks alone", x.book(), 0);
        due("empty then", x.count(4), 0);
        due("high byte", x.feed(8, -1L), 8);
        due("high byte", x.book(), -11);
        due("high byte", x.fault(), 0);
    }

    private static void book() {
        promise = "3";
        ChoiceBook x = new ChoiceBook();
        due("an empty text", x.book(), 0);
        due("health alone", Check.feed(x, "health 7;").book(), 0);
        due("health alone", x.count(2), 7);
        due("a tale", Check.feed(x, TALE).book(), 6);
        due("its health", x.count(2), 3);
        due("untold again", Check.feed(x, "part;").book(), 1);
        due("untold again", x.count(2), 5);
        due("health behind", Check.feed(x, "part;health 9;part;").book(), 2);
        due("health behind", x.count(2), 9);
        due("no blanks", Check.feed(x, "health9;part take1go0with1without2go1;part roll2 0 1;").book(), 2);
        due("no blanks", x.choice(0, 0, 2), 2);
        due("many blanks", Check.feed(x, "  part  go  0  with  7  without  0  ;  ").book(), 1);
        due("many blanks", x.choice(0, 0, 1), 7);
        due("many blanks", x.choice(0, 0, 2), 0);
        due("a nought ahead", Check.feed(x, "health 09;part go 00 with 07;").book(), 1);
        due("a nought ahead", x.count(2), 9);
        due("with and without the same", Check.feed(x, "part go 0 with 1 without 1;").book(), 1);
    }

    private static void bookKeeps() {
        promise = "3";
        ChoiceBook x = Check.told(TALE);
        x.begin();
        x.log(0);
        x.seed(77);
        x.shuffle(24, 1);
        int seed = x.seed(123);
        due("it has drawn", seed == 77 ? 1 : 0, 0);
        x.keep(1);
        due("a fault", Check.feed(x, "part").book(), -11);
        due("the text is empty", x.count(4), 0);
        due("PARTS stay", x.count(0), 6);
        due("health stays", x.count(2), 3);
        due("begun", x.now(0), 0);
        due("the log stays", x.count(3), 1);
        due("the seed stays", x.seed(123), 123);
        due("a book", Check.feed(x, "part;part;part;").book(), 3);
        due("not begun", x.now(0), NOT);
        due("the log is empty", x.count(3), 0);
        due("the seed stays", x.seed(5), 123);
        for (int p = 0; p < 3; p++) {
            due("numbers as at first", x.number(p), p + 1);
        }
        due("images stay", x.goBack(1), 1);
        due("images stay", x.count(0), 6);
        due("images stay", x.now(0), 0);
    }

    private static void fault() {
        promise = "4";
        ChoiceBook x = new ChoiceBook();
        Check.feed(x, "part go 9;").book();
        due("fault", x.fault(), 8);
        due("fault again", x.fault(), 8);
        Check.feed(x, "part");
        due("of the latest book()", x.fault(), 8);
        x.book();
        due("at the end", x.fault(), 4);
        Check.feed(x, "part;").book();
        due("none", x.fault(), NONE);
        x.keep(0);
        Check.feed(x, ";").book();
        x.goBack(0);
        due("no image has it", x.fault(), 0);
    }

    private static void part() {
        promise = "5";
        ChoiceBook x = Check.told(TALE);
        int[][] want = {{0, 0, 3, 8, -1, -1, -1}, {0, 1, 2, 7, -1, -1, -1}, {3, 0, 0, 4, 5, 3, 5},
            {1, 0, 0, 2, -1, -1, -1}, {2, 0, 0, 2, -1, -1, -1}, {0, 2, 3, 10, -1, -1, -1}};
        for (int p = 0; p < 6; p++) {
            for (int what = 0; what < 7; what++) {
                due("part(" + p + ", " + what + ")", x.part(p, what), want[p][what]);
            }
        }
        refused("part", UNKNOWN, x.part(-1, 0), x.part(6, 0), x.part(LOW, 0), x.part(HIGH, 0), x.part(6, 7));
        refused("part", OUTSIDE, x.part(0, -1), x.part(0, 7), x.part(5, LOW), x.part(5, HIGH));
        x.unlink(1, 0);
        x.unlink(1, 0);
        due("without CHOICES", x.part(1, 0), 0);
        due("LINES without CHOICES", x.part(1, 3), 3);
        ChoiceBook most = Check.told("part take 0 drop 1 hurt 2 heal 3 go 0 go 0 go 0 go 0 go 0 go 0;part take 0 roll 2 0 1;");
        due("most LINES", most.part(0, 3), 18);
        due("LINES of a roll", most.part(1, 3), 5);
        due("N 2", most.part(1, 4), 2);
        due("P 0", most.part(1, 5), 0);
        due("Q 1", most.part(1, 6), 1);
    }

    private static void effect() {
        promise = "6";
        ChoiceBook x = Check.told("part take 7 drop 0 hurt 9 heal 1;part take 0;part;");
        int[][] want = {{0, 7}, {1, 0}, {2, 9}, {3, 1}};
        for (int i = 0; i < 4; i++) {
            due("kind " + i, x.effect(0, i, 0), want[i][0]);
            due("value " + i, x.effect(0, i, 1), want[i][1]);
        }
        refused("effect", UNKNOWN, x.effect(0, 4, 0), x.effect(0, -1, 0), x.effect(1, 1, 0), x.effect(2, 0, 0),
            x.effect(3, 0, 0), x.effect(-1, 0, 0), x.effect(1, 1, 2), x.effect(HIGH, HIGH, HIGH), x.effect(LOW, LOW, LOW));
        refused("effect", OUTSIDE, x.effect(0, 0, 2), x.effect(0, 0, -1), x.effect(1, 0, HIGH), x.effect(1, 0, LOW));
    }

    private static void choice() {
        promise = "7";
        ChoiceBook x = Check.told("part go 1 go 0 with 7 go 1 without 0 go 0 with 0 without 7;part win;");
        int[][] want = {{1, -1, -1}, {0, 7, -1}, {1, -1, 0}, {0, 0, 7}};
        for (int i = 0; i < 4; i++) {
            for (int what = 0; what < 3; what++) {
                due("choice(0, " + i + ", " + what + ")", x.choice(0, i, what), want[i][what]);
            }
        }
        refused("choice", UNKNOWN, x.choice(0, 4, 0), x.choice(0, -1, 0), x.choice(1, 0, 0), x.choice(2, 0, 0),
            x.choice(-1, 0, 0), x.choice(0, 4, 3), x.choice(LOW, LOW, LOW), x.choice(HIGH, HIGH, HIGH));
        refused("choice", OUTSIDE, x.choice(0, 0, 3), x.choice(0, 0, -1), x.choice(0, 3, LOW), x.choice(0, 3, HIGH));
    }

    private static void link() {
        promise = "8";
        ChoiceBook x = Check.told(TALE);
        refused("link", UNKNOWN, x.link(-1, 0, -1, -1), x.link(6, 0, -1, -1), x.link(0, -1, -1, -1),
            x.link(0, 6, -1, -1), x.link(0, 0, -2, -1), x.link(0, 0, 8, -1), x.link(0, 0, -1, -2), x.link(0, 0, -1, 8),
            x.link(LOW, 0, 0, 0), x.link(0, HIGH, 0, 0), x.link(3, 6, -1, -1), x.link(3, 0, 8, -1));
        refused("link", NOT, x.link(2, 0, -1, -1), x.link(3, 0, 0, 0), x.link(4, 0, -1, -1));
        due("link", x.link(0, 3, 7, 0), 4);
        due("to", x.choice(0, 3, 0), 3);
        due("with", x.choice(0, 3, 1), 7);
        due("without", x.choice(0, 3, 2), 0);
        due("link to itself", x.link(0, 0, -1, 7), 5);
        due("link", x.link(0, 5, 0, -1), 6);
        due("with", x.choice(0, 5, 1), 0);
        due("without", x.choice(0, 5, 2), NONE);
        due("a seventh", x.link(0, 1, -1, -1), FULL);
        due("UNKNOWN ahead of FULL", x.link(0, 1, -1, 9), UNKNOWN);
        due("still six", x.part(0, 2), 6);
        due("PART 1 is as it was", x.part(1, 2), 2);
        ChoiceBook bare = Check.told("part;part win;");
        due("stuck", bare.begin(), 3);
        due("to a PART with no CHOICES", bare.link(0, 1, -1, -1), 1);
        due("stuck no more", bare.now(4), 0);
        due("odds are new", bare.odds(1), 1000000);
    }

    private static void unlink() {
        promise = "9";
        ChoiceBook x = Check.told("part go 0 go 1 with 1 go 2 without 2 go 0 with 3;part win;part go 1;");
        refused("unlink", UNKNOWN, x.unlink(0, 4), x.unlink(0, -1), x.unlink(1, 0), x.unlink(3, 0), x.unlink(-1, 0),
            x.unlink(HIGH, 0), x.unlink(0, HIGH), x.unlink(LOW, LOW));
        due("unlink", x.unlink(0, 1), 3);
        due("later ones have one less", x.choice(0, 1, 0), 2);
        due("later ones have one less", x.choice(0, 1, 1), NONE);
        due("later ones have one less", x.choice(0, 1, 2), 2);
        due("later ones have one less", x.choice(0, 2, 1), 3);
        due("the first stays", x.choice(0, 0, 0), 0);
        due("no fourth", x.choice(0, 3, 0), UNKNOWN);
        due("others are as they were", x.choice(2, 0, 0), 1);
        due("the last one", x.unlink(0, 2), 2);
        due("unlink", x.unlink(0, 0), 1);
        ChoiceBook last = Check.told("part;".repeat(23) + "part go 0 go 1 go 2 go 3 go 4 go 5;");
        for (int left = 5; left >= 0; left--) {
            due("the last PART of all", last.unlink(23, 0), left);
            due("the last PART of all", last.choice(23, 0, 0), left == 0 ? UNKNOWN : 6 - left);
        }
        x.begin();
        due("going on", x.now(4), 0);
        due("unlink", x.unlink(0, 0), 0);
        due("stuck now", x.now(4), 3);
        due("odds are new", x.odds(9), 0);
    }

    private static void count() {
        promise = "10";
        ChoiceBook x = Check.told(TALE);
        due("PARTS", x.count(0), 6);
        due("CHOICES", x.count(1), 8);
        due("health", x.count(2), 3);
        due("log", x.count(3), 0);
        x.log(1);
        x.log(5);
        due("log", x.count(3), 2);
        x.feed(3, 0x202020L);
        due("text", x.count(4), 3);
        refused("count", OUTSIDE, x.count(-1), x.count(6), x.count(LOW), x.count(HIGH));
        // 0 (health 3), 1 with THING 4, 2 with and without it: health 3; by 5: health 2, then 1, then LOST.
        due("STATES", Check.told("health 3;part go 1 go 2;part hurt 1 go 0;part win;").count(5), 3 + 2 + 3);
        due("LOST by a wound is none", Check.told("health 1;part hurt 1;").count(5), 0);
        due("LOST by die is none", Check.told("part go 1;part die;").count(5), 1);
        due("unlike THINGS", Check.told("part go 1 go 2;part take 0 go 0;part take 1 go 0;").count(5), 4 + 2 + 2);
        due("WON and STUCK are some", Check.told("part go 1 go 2;part win;part;").count(5), 3);
        String all = "health 9;part take 0 take 1 take 2 take 3 go 1;part take 4 take 5 take 6 take 7 go 1;";
        due("the last PART with all THINGS and HEALTH 9", Check.told(all).count(5), 2);
        due("all THINGS", Check.told(all).things(0), 255);
        due("taken and dropped at once", Check.told("part take 1 drop 1 go 0;").count(5), 1);
    }

    private static void begin() {
        promise = "11";
        due("no PARTS", Check.told("health 3;").begin(), NOT);
        due("going on", Check.told("part go 0;").begin(), 0);
        due("a roll goes on", Check.told("part roll 2 0 0;").begin(), 0);
        due("won", Check.told("part win;").begin(), 1);
        due("lost", Check.told("part die;").begin(), 2);
        due("lost by a wound, ahead of win", Check.told("health 1;part hurt 1 win;").begin(), 2);
        due("stuck", Check.told("part;").begin(), 3);
        due("stuck, none OPEN", Check.told("part go 0 with 1;").begin(), 3);
        ChoiceBook x = Check.told("health 4;part hurt 1 take 2 go 1;part hurt 1 drop 2 go 0;");
        x.begin();
        due("EFFECTS of PART 0", x.now(2), 3);
        due("EFFECTS of PART 0", x.now(1), 4);
        x.choose(0);
        x.choose(0);
        due("TURNS", x.now(3), 2);
        due("health", x.now(2), 1);
        due("anew", x.begin(), 0);
        due("PART", x.now(0), 0);
        due("health", x.now(2), 3);
        due("TURNS", x.now(3), 0);
        due("flips anew", x.flips(10), 0);
        ChoiceBook order = Check.told("health 9;part heal 9 hurt 9 take 1 win;");
        due("9 at most, then 0", order.begin(), 2);
        due("later EFFECTS are not done", order.now(1), 0);
        due("earlier ones are", Check.told("part take 1 hurt 9;").begin(), 2);
        due("hurt to 1 and healed", Check.told("part hurt 4 heal 9 hurt 8 win;").begin(), 1);
        ChoiceBook below = Check.told("health 1;part take 3 hurt 9 heal 9 win;");
        due("below 0", below.begin(), 2);
        due("HEALTH 0 then", below.now(2), 0);
        due("THINGS of before", below.now(1), 8);
        ChoiceBook dead = Check.told("health 6;part take 1 die;");
        dead.begin();
        due("die leaves HEALTH", dead.now(2), 6);
    }

    private static void choose() {
        promise = "12";
        ChoiceBook x = Check.told(TALE);
        refused("not begun", NOT, x.choose(0), x.choose(9), x.choose(-1));
        x.begin();
        refused("choose", UNKNOWN, x.choose(3), x.choose(-1), x.choose(LOW), x.choose(HIGH));
        due("choose", x.choose(0), 0);
        due("with 4 had", x.now(1), 16);
        due("shut by without", x.choose(0), NOT);
        due("nothing changed", x.now(3), 1);
        due("choose", x.choose(1), 0);
        due("at a roll", x.choose(0), UNKNOWN);
        due("wounded", x.roll(1), 0);
        due("health", x.now(2), 2);
        due("win", x.choose(1), 1);
        due("over, no CHOICE", x.choose(0), UNKNOWN);
        x.begin();
        x.choose(2);
        due("shut by with", x.choose(1), NOT);
        due("die", x.choose(2), 2);
        ChoiceBook hurt = Check.told("health 1;part go 1;part hurt 1 go 0;part;");
        hurt.begin();
        due("lost", hurt.choose(0), 2);
        due("over, with a CHOICE", hurt.choose(0), NOT);
        due("over, without", hurt.choose(1), UNKNOWN);
        ChoiceBook stuck = Check.told("part go 1;part go 0 with 5;");
        stuck.begin();
        due("stuck", stuck.choose(0), 3);
        due("not OPEN", stuck.choose(0), NOT);
    }

    private static void roll() {
        promise = "13";
        ChoiceBook x = Check.told("part roll 3 1 2;part roll 6 3 0;part roll 2 1 0;part win;");
        due("not begun", x.roll(1), NOT);
        refused("roll", OUTSIDE, x.roll(0), x.roll(7), x.roll(-2), x.roll(LOW), x.roll(HIGH));
        x.begin();
        refused("roll", OUTSIDE, x.roll(0), x.roll(7), x.roll(-2));
        due("N", x.roll(3), 0);
        due("N goes to P", x.now(0), 1);
        x.roll(5);
        due("less goes to Q", x.now(0), 0);
        x.roll(2);
        due("less goes to Q", x.now(0), 2);
        x.roll(1);
        due("1 goes to Q", x.now(0), 0);
        x.roll(6);
        due("win", x.roll(6), 1);
        due("TURNS", x.now(3), 6);
        refused("over", NOT, x.roll(1), x.roll(-1));
        due("no DRAW", x.seed(0), 0);
        // From 0 the first DRAW is 12345 / 65536 = 0, so a 1; the second 3554416254 less 2147483648, / 65536 = 21468.
        x.begin();
        due("a DRAW", x.roll(-1), 0);
        due("a 1", x.now(0), 2);
        due("the seed", x.seed(12345), 12345);
        due("a DRAW", x.roll(-1), 0);
        due("21468 left over by 6 and 1", x.now(0), 21468 % 6 + 1 >= 2 ? 1 : 0);
        due("the seed", x.seed(0), 1406932606);
        ChoiceBook y = Check.told("health 1;part go 1 go 2;part hurt 1 roll 2 0 0;part roll 2 0 0;");
        y.begin();
        due("at no roll", y.roll(1), NOT);
        y.choose(0);
        due("lost at a roll", y.roll(1), NOT);
        y.begin();
        y.choose(1);
        due("at a roll", y.roll(6), 0);
    }

    private static void now() {
        promise = "14";
        ChoiceBook x = Check.told(TALE);
        refused("not begun", NOT, x.now(0), x.now(5));
        refused("now", OUTSIDE, x.now(-1), x.now(6), x.now(LOW), x.now(HIGH));
        x.begin();
        refused("now", OUTSIDE, x.now(-1), x.now(6));
        due("CHOICES OPEN", x.now(5), 7);
        x.choose(0);
        due("PART", x.now(0), 1);
        due("THINGS", x.now(1), 16);
        due("HEALTH", x.now(2), 3);
        due("TURNS", x.now(3), 1);
        due("stands", x.now(4), 0);
        due("CHOICES OPEN", x.now(5), 2);
        x.link(1, 1, 4, -1);
        x.link(1, 1, 3, -1);
        due("with one more", x.now(5), 6);
        x.unlink(1, 2);
        x.unlink(1, 1);
        due("stuck by CHOICES as they are now", x.now(4), 3);
        due("none OPEN", x.now(5), 0);
        ChoiceBook y = Check.told("health 1;part go 1;part hurt 1 go 0;");
        y.begin();
        y.choose(0);
        due("lost", y.now(4), 2);
        due("0 when it is over", y.now(5), 0);
        due("PART where one is lost", y.now(0), 1);
        ChoiceBook z = Check.told("part roll 2 0 0;");
        z.begin();
        due("a roll goes on", z.now(4), 0);
        due("no CHOICES at a roll", z.now(5), 0);
    }

    private static void odds() {
        promise = "15";
        ChoiceBook x = Check.told("part go 1 go 2;part roll 5 3 0;part roll 2 1 4;part win;part die;");
        due("not begun", x.odds(0), NOT);
        refused("odds", OUTSIDE, x.odds(-1), x.odds(61), x.odds(LOW), x.odds(HIGH));
        x.begin();
        refused("odds", OUTSIDE, x.odds(-1), x.odds(61));
        due("t 0", x.odds(0), 0);
        due("t 1", x.odds(1), 0);
        due("t 2: 2 of 6", x.odds(2), 333333);
        due("t 3", x.odds(3), 333333);
        due("t 4: 2 wins, 4 times 333333", x.odds(4), (2000000 + 4 * 333333) / 6);
        int one = 0;
        for (int t = 2; t <= 60; t += 2) {
            one = (2000000 + 4 * one) / 6;
        }
        due("t 60", x.odds(60), one);
        due("back to t 2", x.odds(2), 333333);
        x.choose(1);
        due("5 of 6, cut", x.odds(2), 5 * 333333 / 6);
        x.roll(2);
        due("at 1", x.odds(1), 333333);
        due("won", x.roll(6), 1);
        due("won, t 0", x.odds(0), 1000000);
        due("won, t 60", x.odds(60), 1000000);
        ChoiceBook y = Check.told("health 1;part go 1 go 2;part hurt 1 go 3;part go 3 with 1;part win;");
        y.begin();
        due("LOST and STUCK ahead", y.odds(60), 0);
        y.choose(1);
        due("STUCK", y.odds(60), 0);
        y.begin();
        y.choose(0);
        due("LOST", y.odds(60), 0);
        // One stands where nobody comes to any more: the way there is struck out.
        ChoiceBook z = Check.told("part go 1;part take 1 go 2;part win;");
        z.begin();
        z.choose(0);
        z.unlink(0, 0);
        due("from now, not from the BEGINNING", z.odds(1), 1000000);
        due("fewest from now", z.fewest(), 1);
        due("surely from now", z.surely(), 1);
        due("advice from now", z.advice(1), 0);
        due("COME TO is from the BEGINNING", z.parts(0), 1);
        due("COME TO is from the BEGINNING", z.count(5), 1);
        due("COME TO is from the BEGINNING", z.things(0), 0);
        due("no win", z.parts(1), 0);
        strandedReader();
    }

    /** Where nobody comes to any more one goes on all the same, with THINGS to be had. */
    private static void strandedReader() {
        String text = "part go 1;part take 1 go 4 go 2;part take 0 go 3 with 0;part win;part;";
        ChoiceBook x = Check.told(text);
        x.begin();
        x.choose(0);
        x.unlink(0, 0);
        due("traps first", x.parts(2), 1);
        due("fewest behind traps", x.fewest(), 2);
        due("traps again", x.parts(2), 1);
        due("holes", x.parts(3), 1);
        due("odds", x.odds(2), 1000000);
        ChoiceBook y = Check.told(text);
        y.begin();
        y.choose(0);
        y.unlink(0, 0);
        due("advice", y.advice(2), 1);
        due("surely", y.surely(), 2);
    }

    private static void advice() {
        promise = "16";
        ChoiceBook x = Check.told("part go 3 with 7 go 1 go 2 go 4 go 2;part roll 4 5 3;part go 6;part die;"
            + "part roll 3 5 3;part win;part go 5;");
        due("not begun", x.advice(1), NOT);
        refused("advice", OUTSIDE, x.advice(0), x.advice(61), x.advice(-1), x.advice(LOW), x.advice(HIGH));
        x.begin();
        due("all 0: the least OPEN", x.advice(1), 1);
        due("4 of 6", x.advice(2), 3);
        due("for sure, the least of like ones", x.advice(3), 2);
        due("for sure", x.advice(60), 2);
        due("less TURNS again", x.advice(2), 3);
        x.choose(1);
        due("at a roll", x.advice(9), NONE);
        x.roll(6);
        due("won", x.advice(9), NONE);
        ChoiceBook y = Check.told("health 1;part go 1 go 2;part hurt 1 go 0;part go 0 with 1;");
        y.begin();
        due("a CHOICE to LOST", y.advice(1), 0);
        y.choose(0);
        due("lost", y.advice(1), NONE);
        y.begin();
        y.choose(1);
        due("stuck", y.advice(1), NONE);
    }

    private static void fewest() {
        promise = "17";
        ChoiceBook x = Check.told("part roll 2 1 2;part go 3;part roll 6 5 0;part go 4;part go 5;part win;part die;");
        due("not begun", x.fewest(), NOT);
        x.begin();
        due("by luck", x.fewest(), 2);
        x.roll(6);
        due("by the long way", x.fewest(), 3);
        x.choose(0);
        x.choose(0);
        x.choose(0);
        due("won", x.fewest(), 0);
        ChoiceBook y = Check.told("health 3;part go 1;part hurt 1 go 0 go 2 with 1;part win;");
        y.begin();
        due("none", y.fewest(), NONE);
        ChoiceBook z = Check.told("part die;");
        z.begin();
        due("lost", z.fewest(), NONE);
        due("more than 60 TURNS", longWay().fewest(), 65);
        due("not within 60 TURNS", longWay().surely(), NONE);
        due("not within 60 TURNS", longWay().odds(60), 0);
    }

    /** Two rounds of 22 TURNS through a ring, told apart by THINGS 0 and 1, and 21 TURNS to the win. */
    private static ChoiceBook longWay() {
        StringBuilder text = new StringBuilder();
        for (int p = 0; p < 20; p++) {
            text.append("part go ").append(p + 1).append(";");
        }
        text.append("part go 22 without 0 go 21 with 0 without 1 go 23 with 1;");
        text.append("part take 1 go 0;part take 0 go 0;part win;");
        ChoiceBook x = Check.told(text.toString());
        x.begin();
        return x;
    }

    private static void surely() {
        promise = "18";
        ChoiceBook x = Check.told("part go 1 go 2;part roll 2 5 5;part roll 2 5 3;part roll 6 4 5;part go 5;part win;");
        due("not begun", x.surely(), NOT);
        x.begin();
        due("a roll that wins anyway", x.surely(), 2);
        x.unlink(0, 0);
        due("the longest of rolls", x.surely(), 4);
        due("by luck", x.fewest(), 2);
        ChoiceBook y = Check.told("part roll 2 1 0;part win;");
        y.begin();
        due("never for sure", y.surely(), NONE);
        due("by luck", y.fewest(), 1);
        y.roll(5);
        due("won", y.surely(), 0);
        ChoiceBook z = Check.told("part;");
        z.begin();
        due("stuck", z.surely(), NONE);
        due("60 at most", ring(20).surely(), 60);
        due("61 are too many", ring(21).surely(), NONE);
        due("61 by luck", ring(21).fewest(), 61);
    }

    /** Two rounds of 20 TURNS through a ring, told apart by THINGS 0 and 1, and 20 or 21 TURNS to the win. */
    private static ChoiceBook ring(int behind) {
        StringBuilder text = new StringBuilder();
        for (int p = 0; p < 18; p++) {
            text.append("part go ").append(p + 1).append(";");
        }
        text.append("part go 19 without 0 go 20 with 0 without 1 go 21 with 1;");
        text.append("part take 0 go 0;part take 1 go 0;");
        text.append(behind == 20 ? "part go 23;part;part win;" : "part go 22;part go 23;part win;");
        ChoiceBook x = Check.told(text.toString());
        x.begin();
        return x;
    }

    private static void parts() {
        promise = "19";
        ChoiceBook x = Check.told(TALE);
        refused("parts", OUTSIDE, x.parts(-1), x.parts(4), x.parts(LOW), x.parts(HIGH));
        due("come to", x.parts(0), 63);
        x.unlink(5, 2);
        due("4 no more", x.parts(0), 47);
        due("where one is LOST, too", Check.told("health 1;part go 1;part hurt 1 go 2;part win;").parts(0), 3);
        due("by both ways of a roll", Check.told("part roll 2 2 1;part;part;part;").parts(0), 7);
        due("not what is shut", Check.told("part go 1 with 0 go 2 without 0;part;part take 0 go 0;").parts(0), 7);
        due("not what is shut", Check.told("part go 1 with 0 go 2;part;part go 0;").parts(0), 5);
        due("24 PARTS", longWay().parts(0), 16777215);
        due("traps: 0, 2", Check.told("part go 1 with 0 go 2;part win;part go 0;").parts(2), 5);
        due("traps: as one is then", Check.told("part go 1 go 2;part go 3;part take 0 go 1 go 2;part go 4 without 0;part win;")
            .parts(2), 2 + 4 + 8);
        due("a WON one is none, a LOST one is none", Check.told("part go 1 go 2;part win;part die;").parts(2), 0);
        due("STUCK is a trap and a hole", Check.told("part go 1 go 2;part win;part;").parts(2), 4);
        due("holes", Check.told("part go 1 go 2;part win;part;").parts(3), 4);
        due("holes: with no OPEN one", Check.told("part go 1 go 2;part take 0 go 2;part go 1 with 0;").parts(3), 4);
        due("a roll is no hole", Check.told("part roll 2 0 0;").parts(3), 0);
        due("only a LOST way is no hole", Check.told("part go 1;part die;").parts(3), 0);
        due("but a trap", Check.told("part go 1;part die;").parts(2), 1);
        due("a wound is no hole", Check.told("health 1;part hurt 1;").parts(3), 0);
    }

    private static void must() {
        promise = "19";
        due("PART 0, too", Check.told("part win;").parts(1), 1);
        due("no win, none", Check.told("part go 0;").parts(1), 0);
        due("two ways", Check.told("part go 1 go 2;part go 3;part go 3;part win;").parts(1), 9);
        due("one way", Check.told("part go 1 go 2;part go 3;part die;part win;").parts(1), 11);
        due("a THING on the way", Check.told("part go 1 go 2;part take 0 go 0;part go 3 with 0 go 0;part win;").parts(1), 15);
        due("two wins", Check.told("part go 1 go 2;part win;part win;").parts(1), 1);
        due("a roll", Check.told("part roll 3 1 2;part win;part go 1;").parts(1), 3);
        due("a part that nobody comes to", Check.told("part go 2;part go 2;part win;").parts(1), 5);
    }

    private static void things() {
        promise = "20";
        ChoiceBook x = Check.told(TALE);
        refused("things", OUTSIDE, x.things(-1), x.things(2), x.things(LOW), x.things(HIGH));
        due("had", x.things(0), 16);
        due("not needed", x.things(1), 0);
        due("never come to", Check.told("part go 0;part take 1;").things(0), 0);
        due("dropped at once", Check.told("part take 1 drop 1 take 2 go 0;").things(0), 4);
        // A STATE is PART, THINGS, HEALTH, or LOST: one that is LOST has no THINGS.
        due("not where one is LOST", Check.told("part go 1 go 2;part take 1 die;part take 2 hurt 9;").things(0), 0);
        due("all", Check.told("part take 0 take 1 take 2 take 3 go 1;part take 4 take 5 take 6 take 7 go 0;").things(0), 255);
        String key = "part go 1 go 2;part take 6 go 0;part go 3 with 6;part win;";
        due("needed", Check.told(key).things(1), 64);
        due("one of two", Check.told("part take 0 take 1 go 1 with 0 go 1 with 1;part win;").things(1), 0);
        due("both", Check.told("part take 0 take 1 go 1 with 0;part go 2 with 1;part win;").things(1), 3);
        due("in the way", Check.told("part take 0 go 1 without 0;part win;").things(1), 0);
        due("no win, none needed", Check.told("part take 0 go 1 with 0;part;").things(1), 0);
        due("won anyway", Check.told("part take 0 win;").things(1), 0);
    }

    private static void without() {
        promise = "21";
        ChoiceBook none = new ChoiceBook();
        refused("without", UNKNOWN, none.without(-1, 0), none.without(8, 99), none.without(LOW, 0), none.without(HIGH, 0));
        refused("without", OUTSIDE, none.without(0, -1), none.without(7, 61), none.without(0, LOW), none.without(0, HIGH));
        due("no PARTS", none.without(0, 0), NOT);
        ChoiceBook x = Check.told("part take 3 go 1 with 3 go 2;part win;part roll 3 1 3;part die;");
        due("not begun, all the same", x.without(0, 1), 1000000);
        due("less by a THING", x.without(3, 1), 0);
        due("less by a THING", x.without(3, 2), 4000000 / 6);
        due("t 0", x.without(0, 0), 0);
        x.begin();
        x.choose(1);
        due("of the BEGINNING, not of now", x.without(0, 1), 1000000);
        due("of now", x.odds(1), 666666);
        due("better without", Check.told("part take 0 go 1 without 0;part win;").without(0, 1), 1000000);
        due("worse with", Check.told("part take 0 go 1 without 0;part win;").without(1, 1), 0);
        due("WON at once", Check.told("part win;").without(0, 0), 1000000);
        due("LOST at once", Check.told("part die;").without(0, 60), 0);
        refused("without", UNKNOWN, x.without(-1, 0), x.without(8, 0));
        refused("without", OUTSIDE, x.without(0, -1), x.without(0, 61));
    }

    private static void logAndClear() {
        promise = "22, 23";
        ChoiceBook x = Check.told(TALE);
        refused("log", UNKNOWN, x.log(-1), x.log(6), x.log(LOW), x.log(HIGH));
        for (int i = 1; i <= 60; i++) {
            due("log", x.log(i % 6), i);
        }
        due("full", x.log(0), FULL);
        due("unknown ahead of full", x.log(6), UNKNOWN);
        due("60", x.count(3), 60);
        due("clear", x.clear(), 60);
        due("clear", x.clear(), 0);
        due("count", x.count(3), 0);
        due("log", x.log(5), 1);
    }

    private static int judged(ChoiceBook x, int... row) {
        x.clear();
        for (int p : row) {
            x.log(p);
        }
        return x.judge();
    }

    private static void judge() {
        promise = "24";
        ChoiceBook x = Check.told(TALE);
        due("empty", judged(x), NONE);
        due("0", judged(x, 0), NONE);
        due("not PART 0", judged(x, 1, 0), 0);
        due("no way", judged(x, 0, 3), 1);
        due("a way and a roll", judged(x, 0, 1, 2, 5, 3), NONE);
        due("P", judged(x, 0, 2, 3), NONE);
        due("neither P nor Q", judged(x, 0, 2, 4), 2);
        due("shut by without", judged(x, 0, 1, 0), 2);
        due("shut by with", judged(x, 0, 5, 3), 2);
        due("behind WON", judged(x, 0, 2, 3, 0), 3);
        due("behind LOST by die", judged(x, 0, 5, 4, 0), 3);
        due("LOST by wounds", judged(x, 0, 5, 0, 5), NONE);
        due("behind LOST by wounds", judged(x, 0, 5, 0, 5, 0, 5), 4);
        due("not where one is", x.now(0), NOT);
        ChoiceBook y = Check.told("part go 1;part go 0;part;");
        y.keep(0);
        due("STUCK", judged(y, 0, 1, 0, 2), 3);
        due("fine", judged(y, 0, 1, 0), NONE);
        y.unlink(1, 0);
        due("by CHOICES as they are now", y.judge(), 2);
        // THE LOG stays when one goes back, to a book that has no such PARTS.
        ChoiceBook z = new ChoiceBook();
        z.keep(0);
        Check.feed(z, "part go 0;").book();
        z.keep(1);
        Check.feed(z, "part go 1;part go 0;").book();
        due("fine", judged(z, 0, 1), NONE);
        z.goBack(1);
        due("the log stays", z.count(3), 2);
        due("no such PART", z.judge(), 1);
        z.goBack(0);
        due("nothing begins without PARTS", z.judge(), 0);
    }

    private static void number() {
        promise = "25";
        ChoiceBook x = Check.told(TALE);
        for (int p = 0; p < 6; p++) {
            due("at first", x.number(p), p + 1);
        }
        refused("number", UNKNOWN, x.number(-1), x.number(6), x.number(LOW), x.number(HIGH));
    }

    private static void near() {
        promise = "26";
        // LINKED: 0-1, 0-2, 0-5, 1-2, 2-3, 2-5, 5-3, 5-4
        ChoiceBook x = Check.told(TALE);
        int[] want = {0, 4, 6, 7, 7, 8};
        for (int d = 1; d <= 6; d++) {
            due("near(" + d + ")", x.near(d), want[d - 1]);
        }
        due("near(24)", x.near(24), 8);
        refused("near", OUTSIDE, x.near(0), x.near(25), x.near(-1), x.near(LOW), x.near(HIGH));
        due("itself is none", Check.told("part go 0 go 0;").near(24), 0);
        due("each once", Check.told("part go 1 go 1 with 0;part roll 2 0 0;").near(24), 1);
        due("shut ones, too", Check.told("part go 1 with 0 without 0;part;").near(24), 1);
        x.unlink(0, 2);
        due("LINKED the other way still", x.near(24), 8);
        x.unlink(5, 0);
        due("struck out", x.near(24), 7);
        x.link(1, 5, -1, -1);
        due("put in", x.near(24), 8);
    }

    private static void shuffle() {
        promise = "27";
        ChoiceBook x = Check.told("part go 1;part go 2;part go 3;part go 0;");
        refused("shuffle", OUTSIDE, x.shuffle(0, 1), x.shuffle(25, 1), x.shuffle(1, 0), x.shuffle(1, 100),
            x.shuffle(LOW, HIGH), x.shuffle(HIGH, LOW));
        due("no DRAW by a refusal", x.seed(0), 0);
        // d 1: nothing is NEAR at first, so the NUMBERS of before stay, though there are DRAWS.
        due("nothing near", x.shuffle(1, 5), 0);
        for (int p = 0; p < 4; p++) {
            due("those of before stay", x.number(p), p + 1);
        }
        due("two DRAWS each time", x.seed(0), drawn(0, 10));
        // d 2: at first 0-1, 1-2, 2-3 are NEAR; the NUMBERS that have fewer are looked for by hand.
        int[] numbers = {1, 2, 3, 4};
        int[] best = numbers.clone();
        int least = 3;
        long seed = 0;
        for (int i = 0; i < 7; i++) {
            for (int k = 3; k >= 2; k--) {
                seed = (seed * 1103515245L + 12345L) % (1L << 31);
                int j = 1 + (int) (seed / 65536 % k);
                int n = numbers[k];
                numbers[k] = numbers[j];
                numbers[j] = n;
            }
            int pairs = 0;
            for (int p = 0; p < 4; p++) {
                pairs += Math.abs(numbers[p] - numbers[(p + 1) % 4]) < 2 ? 1 : 0;
            }
            if (pairs < least) {
                least = pairs;
                best = numbers.clone();
            }
        }
        due("fewest near", x.shuffle(2, 7), least);
        due("less than at first", least < 3 ? 1 : 0, 1);
        due("near then", x.near(2), least);
        due("PART 0 stays", x.number(0), 1);
        for (int p = 0; p < 4; p++) {
            due("number " + p, x.number(p), best[p]);
        }
        due("the seed", x.seed(0), seed);
        ChoiceBook two = Check.told("part go 1;part;");
        due("two PARTS", two.shuffle(2, 99), 1);
        due("no DRAW for two PARTS", two.seed(0), 0);
        ChoiceBook three = Check.told("part go 1;part go 2;part;");
        three.shuffle(24, 1);
        due("one DRAW for three PARTS", three.seed(0), 12345);
    }

    private static long drawn(long seed, int times) {
        long s = seed;
        for (int i = 0; i < times; i++) {
            s = (s * 1103515245L + 12345L) % (1L << 31);
        }
        return s;
    }

    private static void page() {
        promise = "28";
        // LINES: 8, 7, 4, 2, 2, 10
        ChoiceBook x = Check.told(TALE);
        int[] ten = {0, 1, 2, 2, 2, 3};
        int[] fifteen = {0, 0, 1, 1, 1, 2};
        int[] nineteen = {0, 0, 0, 1, 1, 1};
        for (int p = 0; p < 6; p++) {
            due("page(" + p + ", 10)", x.page(p, 10), ten[p]);
            due("page(" + p + ", 15)", x.page(p, 15), fifteen[p]);
            due("page(" + p + ", 19)", x.page(p, 19), nineteen[p]);
            due("page(" + p + ", 60)", x.page(p, 60), 0);
        }
        refused("page", UNKNOWN, x.page(-1, 10), x.page(6, 10), x.page(6, 9), x.page(LOW, 0), x.page(HIGH, 0));
        refused("page", OUTSIDE, x.page(0, 9), x.page(0, 61), x.page(5, LOW), x.page(5, HIGH));
        // 2, 18 (a PAGE of its own), 2, 2; then with the long one at first.
        String wide = "part take 0 take 0 take 0 take 0 go 0 go 0 go 0 go 0 go 0 go 0;";
        ChoiceBook y = Check.told("part;" + wide + "part;part;");
        int[] own = {0, 1, 2, 2};
        ChoiceBook z = Check.told(wide + "part;part;");
        for (int p = 0; p < 4; p++) {
            due("a PAGE of its own", y.page(p, 10), own[p]);
            due("behind it on the next", z.page(p, 17), p == 0 ? 0 : p < 3 ? 1 : UNKNOWN);
            due("it fits", z.page(p, 22), p < 3 ? 0 : UNKNOWN);
        }
        // By NUMBERS: whatever they are, PARTS of 8 LINES are one a PAGE, in their order.
        ChoiceBook n = Check.told("part go 1 go 2 go 3;part go 2 go 3 go 0;part go 3 go 0 go 1;part go 0 go 1 go 2;part go 0;");
        n.seed(3);
        n.shuffle(2, 20);
        for (int p = 0; p < 4; p++) {
            due("by NUMBERS", n.page(p, 10), n.number(p) - 1);
        }
    }

    private static void flips() {
        promise = "29";
        ChoiceBook x = Check.told(TALE);
        due("not begun", x.flips(10), NOT);
        refused("flips", OUTSIDE, x.flips(9), x.flips(61), x.flips(LOW), x.flips(HIGH));
        x.begin();
        refused("flips", OUTSIDE, x.flips(9), x.flips(61));
        due("nothing read", x.flips(10), 0);
        x.choose(2);
        due("0 to 5", x.flips(10), 3);
        x.choose(0);
        due("and back", x.flips(10), 6);
        x.choose(1);
        due("0 to 2", x.flips(10), 8);
        due("by 15", x.flips(15), 2 + 2 + 1);
        due("by 60", x.flips(60), 0);
        x.roll(6);
        due("2 to 3 on one PAGE", x.flips(10), 8);
        // One LINE more moves PARTS: PART 1 then has 9 LINES, so by 15 it goes to a PAGE behind 0.
        x.link(1, 1, -1, -1);
        due("by PAGES as they are now", x.flips(15), flipsBy(x, 15, 0, 5, 0, 2, 3));
        x.seed(11);
        x.shuffle(3, 30);
        due("by NUMBERS as they are now", x.flips(10), flipsBy(x, 10, 0, 5, 0, 2, 3));
        x.begin();
        due("anew", x.flips(10), 0);
    }

    private static int flipsBy(ChoiceBook x, int h, int... row) {
        int sum = 0;
        for (int i = 1; i < row.length; i++) {
            sum += Math.abs(x.page(row[i], h) - x.page(row[i - 1], h));
        }
        return sum;
    }

    private static void seed() {
        promise = "30";
        ChoiceBook x = new ChoiceBook();
        due("0 at first", x.seed(7), 0);
        due("what it was", x.seed(HIGH), 7);
        refused("seed", OUTSIDE, x.seed(-1), x.seed(LOW));
        due("what it was", x.seed(0), HIGH);
        // A DRAW from the greatest seed: left over by 2 to the 31.
        Check.feed(x, "part roll 2 0 0;").book();
        x.begin();
        x.seed(HIGH);
        x.roll(-1);
        due("left over", x.seed(0), (2147483647L * 1103515245L + 12345L) % 2147483648L);
    }

    private static void blind() {
        promise = "31";
        ChoiceBook none = new ChoiceBook();
        refused("blind", OUTSIDE, none.blind(0), none.blind(100), none.blind(-1), none.blind(LOW), none.blind(HIGH));
        due("no PARTS", none.blind(1), NOT);
        ChoiceBook x = Check.told("part win;");
        due("all", x.blind(99), 99);
        due("no DRAW", x.seed(0), 0);
        due("not begun still", x.now(0), NOT);
        ChoiceBook one = Check.told("part go 1;part win;");
        due("all", one.blind(3), 3);
        due("a DRAW of 1 is a DRAW", one.seed(0), drawn(0, 3));
        ChoiceBook ring = Check.told("part go 0;");
        due("60 TURNS", ring.blind(1), 0);
        due("60 TURNS", ring.seed(0), drawn(0, 60));
        ChoiceBook stuck = Check.told("part go 1;part go 0 with 0;");
        due("stuck", stuck.blind(2), 0);
        due("stuck", stuck.seed(0), drawn(0, 2));
        // DRAWS of OPEN ones alone: the shut CHOICE ahead of them has no place among them.
        ChoiceBook shut = Check.told("part go 2 with 0 go 1 go 1;part win;part die;");
        due("none takes what is shut", shut.blind(99), 99);
        ChoiceBook coin = Check.told("part go 2 go 1;part win;part die;");
        int wins = 0;
        long seed = 42;
        for (int i = 0; i < 20; i++) {
            seed = drawn(seed, 1);
            wins += seed / 65536 % 2 == 1 ? 1 : 0;
        }
        coin.seed(42);
        coin.begin();
        coin.choose(0);
        due("by DRAWS", coin.blind(20), wins);
        due("where one is stays", coin.now(0), 2);
        due("where one is stays", coin.now(3), 1);
        ChoiceBook die = Check.told("part roll 5 1 2;part win;part die;");
        wins = 0;
        seed = 42;
        for (int i = 0; i < 20; i++) {
            seed = drawn(seed, 1);
            wins += seed / 65536 % 6 + 1 >= 5 ? 1 : 0;
        }
        die.seed(42);
        due("by rolls", die.blind(20), wins);
        // 60 TURNS to a win are not too many, 61 are.
        due("at the 60th TURN", ring(20).blind(1), 1);
        due("not at the 61st", ring(21).blind(1), 0);
    }

    private static void images() {
        promise = "32, 33";
        ChoiceBook x = Check.told(TALE);
        refused("keep", UNKNOWN, x.keep(-1), x.keep(2), x.keep(LOW), x.keep(HIGH));
        refused("goBack", UNKNOWN, x.goBack(-1), x.goBack(2), x.goBack(LOW), x.goBack(HIGH));
        due("not kept", x.goBack(0), NOT);
        due("keep", x.keep(0), 1);
        due("the other is not kept", x.goBack(1), NOT);
        x.begin();
        x.choose(0);
        x.choose(1);
        x.seed(99);
        x.shuffle(6, 9);
        x.seed(99);
        x.link(0, 4, 1, 2);
        x.log(0);
        int[] numbers = new int[6];
        for (int p = 0; p < 6; p++) {
            numbers[p] = x.number(p);
        }
        int flips = x.flips(10);
        due("keep", x.keep(1), 1);
        Check.feed(x, "part").feed(1, 59);
        x.book();
        x.log(0);
        x.log(0);
        x.feed(4, 0x20202020L);
        due("goBack", x.goBack(1), 1);
        due("PARTS", x.count(0), 6);
        due("CHOICES", x.part(0, 2), 4);
        due("CHOICES", x.choice(0, 3, 2), 2);
        due("health", x.count(2), 3);
        for (int p = 0; p < 6; p++) {
            due("numbers", x.number(p), numbers[p]);
        }
        due("where one is", x.now(0), 2);
        due("THINGS", x.now(1), 16);
        due("TURNS", x.now(3), 2);
        due("what was read", x.flips(10), flips);
        due("the log is none of it", x.count(3), 2);
        due("the text is none of it", x.count(4), 4);
        due("the seed", x.seed(1), 99);
        x.unlink(0, 3);
        x.roll(1);
        due("an image is as it was kept", x.goBack(1), 1);
        due("an image is as it was kept", x.part(0, 2), 4);
        due("an image is as it was kept", x.now(0), 2);
        due("goBack", x.goBack(0), 1);
        due("not begun then", x.now(0), NOT);
        due("numbers at first", x.number(5), 6);
        due("the seed at first", x.seed(0), 0);
        due("COME TO by the book of now", x.part(0, 2), 3);
        due("kept anew", x.keep(1), 1);
        x.begin();
        x.goBack(1);
        due("kept anew", x.now(0), NOT);
        ChoiceBook y = new ChoiceBook();
        y.keep(0);
        Check.feed(y, TALE).book();
        y.begin();
        due("keep of no PARTS", y.goBack(0), 1);
        due("no PARTS", y.count(0), 0);
        due("no PARTS", y.parts(0), 0);
        due("no PARTS", y.count(5), 0);
        due("no PARTS", y.begin(), NOT);
    }
}
