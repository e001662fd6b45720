/** What there may be, and THE LOG: the boundary cases' sentences of term 3 and of promises 19 to 24, one by one. */
public final class EdgeWorldTest {
    private static final int NONE = Doc.NONE, UNKNOWN = Doc.UNKNOWN, OUTSIDE = Doc.OUTSIDE, NOT = Doc.NOT, FULL = Doc.FULL;
    private static final int LOW = Doc.LOW, HIGH = Doc.HIGH;
    private static final int MILLION = 1000000;

    public static void main(String[] args) {
        comeTo();
        must();
        traps();
        holes();
        needed();
        wrong();
        nothingBehind();
        parts();
        things();
        without();
        log();
        clear();
        judge();
        Doc.end(19, 24);
    }

    private static void comeTo() {
        Doc.term(3, "COME TO are STATES that there may be from the BEGINNING, by any CHOICES, rolls.");
        Doc.due("by each CHOICE", Check.told("part go 1 go 2 go 3;part;part;part;part;").parts(0), 15);
        Doc.due("by both ways of a roll", Check.told("part roll 6 2 3;part;part;part;").parts(0), 13);
        Doc.due("not by a shut CHOICE", Check.told("part go 1 with 0 go 2 without 0;part;part;").parts(0), 5);
        Doc.due("by one that is opened later", Check.told("part go 1 with 0 go 2;part;part take 0 go 0;").parts(0), 7);
        Doc.due("not behind WON or LOST", Check.told("part go 1 go 2;part hurt 5 go 3;part win;part;").parts(0), 7);
        ChoiceBook x = Check.told("part go 1;part go 2;part;");
        x.begin();
        x.choose(0);
        Doc.due("not from now", x.count(5), 3);
        x.unlink(0, 0);
        Doc.due("by CHOICES as they are", x.parts(0), 1);
        x.link(0, 2, NONE, NONE);
        Doc.due("by CHOICES as they are", x.parts(0), 5);
        many();
    }

    /** Hubs from which each THING may be taken, and wounds: STATES by the thousand. */
    private static void many() {
        StringBuilder six = new StringBuilder("part go1go2go3go4go5go6;");
        for (int i = 0; i < 6; i++) {
            six.append("part take").append(i).append(" go0;");
        }
        ChoiceBook hub = Check.told(six.toString());
        Doc.due("6 THINGS: 64 at the hub, 32 at each of 6", hub.count(5), 64 + 6 * 32);
        hub.begin();
        Doc.due("no win", hub.fewest(), NONE);
        Doc.due("no win", hub.odds(60), 0);
        Doc.due("traps all", hub.parts(2), 127);
        Doc.due("no holes", hub.parts(3), 0);
        Doc.due("6 THINGS", hub.things(0), 63);
        hub.unlink(0, 5);
        Doc.due("5 THINGS: 32 at the hub, 16 at each of 5", hub.count(5), 32 + 5 * 16);
        Doc.due("PART 6 no more", hub.parts(2), 63);
        String all = "health 9;part go1go2go3go4go5go6;part take0go0;part take1go0;part take2go0;part take3go0;part take4go0;"
            + "part go7go8go9go10go11go0;part take5go0;part take6go0;part take7go0;part hurt1go0;"
            + "part roll2 12 13;part win;part die;";
        ChoiceBook x = Check.told(all);
        // 9 of HEALTH: 256 at PARTS 0, 6, 11, 12, 128 at each of 8 that take; at 10 HEALTH is 8 at most.
        Doc.due("8 THINGS and HEALTH", x.count(5), 9 * (4 * 256 + 8 * 128) + 8 * 256);
        Doc.due("all PARTS", x.parts(0), (1 << 14) - 1);
        Doc.due("all THINGS", x.things(0), 255);
        Doc.due("the way to the win", x.parts(1), 1 + (1 << 6) + (1 << 11) + (1 << 12));
        Doc.due("no traps", x.parts(2), 0);
        x.begin();
        Doc.due("odds", x.odds(60), 833333);
        Doc.due("fewest", x.fewest(), 3);
    }

    private static void must() {
        Doc.term(3, "MUST are PARTS without which (nobody can go there) no STATE that is COME TO has WON, if there is one with them.");
        Doc.due("PART 0, which wins", Check.told("part win;").parts(1), 1);
        Doc.due("no win", Check.told("part go 0;part win;").parts(1), 0);
        Doc.due("a win where one is LOST", Check.told("part go 1;part hurt 5 win;").parts(1), 0);
        Doc.due("a win with 1 left", Check.told("part go 1;part hurt 4 win;").parts(1), 3);
        Doc.due("either of two", Check.told("part go 1 go 2;part go 3;part go 3;part win;").parts(1), 9);
        Doc.due("two wins", Check.told("part go 1 go 2;part win;part win;").parts(1), 1);
        Doc.due("either way of a roll", Check.told("part roll 2 1 2;part go 3;part go 3;part win;").parts(1), 9);
        Doc.due("for its THING", Check.told("part go 1 go 2 with 7;part take 7 go 0;part win;").parts(1), 7);
        Doc.due("for its healing", Check.told("health 1;part go 1 go 2;part heal 1 go 0;part hurt 1 win;").parts(1), 7);
        Doc.due("nobody comes to PART 1", Check.told("part go 2;part go 2;part win;").parts(1), 5);
        Doc.due("the 24th", Check.told("part go 23;" + "part;".repeat(22) + "part win;").parts(1), 1 + (1 << 23));
    }

    private static void traps() {
        Doc.term(3, "TRAPS are PARTS at which some STATE is COME TO, neither WON nor LOST, from which no WON STATE can be come to.");
        Doc.due("WON", Check.told("part win;").parts(2), 0);
        Doc.due("LOST", Check.told("part go 1 go 2 go 3;part win;part die;part hurt 5;").parts(2), 0);
        Doc.due("STUCK", Check.told("part go 1 go 2;part win;part;").parts(2), 4);
        Doc.due("for ever", Check.told("part go 1 go 2;part win;part go 2;").parts(2), 4);
        Doc.due("only to LOST", Check.told("part go 1 go 2;part win;part go 3;part die;").parts(2), 4);
        Doc.due("by luck one may get away", Check.told("part roll 6 1 0;part win;").parts(2), 0);
        Doc.due("some STATE of it alone", Check.told("part go 1 go 2;part take 0 go 2;part go 3 without 0;part win;").parts(2), 6);
        Doc.due("no win at all", Check.told("part go 1;part go 0;").parts(2), 3);
        // PART 1 is WON with HEALTH 9 and no THINGS, LOST with HEALTH 1 and THING 0.
        Doc.due("LOST is like no other STATE",
            Check.told("health 9;part go 1 go 2;part hurt 8 heal 9 win;part take 0 hurt 8 go 1;").parts(2), 4);
        Doc.due("nobody comes to it", Check.told("part go 2;part;part win;").parts(2), 0);
    }

    private static void holes() {
        Doc.term(3, "HOLES are PARTS at which some STATE is COME TO that is STUCK.");
        Doc.due("none at all", Check.told("part go 1;part;").parts(3), 2);
        Doc.due("none OPEN", Check.told("part go 1;part go 0 with 0;").parts(3), 2);
        Doc.due("some STATE of it alone", Check.told("part go 1 go 2;part take 0 go 2;part go 0 without 0;").parts(3), 4);
        Doc.due("WON, LOST, a roll", Check.told("part go 1 go 2 go 3 go 4;part win;part die;part hurt 5;part roll 2 0 0;").parts(3), 0);
        Doc.due("all ways lead to LOST", Check.told("part go 1;part die;").parts(3), 0);
        Doc.due("nobody comes to it", Check.told("part go 0;part;").parts(3), 0);
        Doc.due("PART 0", Check.told("part;").parts(3), 1);
    }

    private static void needed() {
        Doc.term(3, "NEEDED is a THING, if some STATE that is COME TO has WON, and none, were it not to be had ('take' of it does nothing).");
        Doc.due("a key", Check.told("part take 7 go 1 with 7;part win;").things(1), 128);
        Doc.due("no win", Check.told("part take 7 go 1 with 7;part;").things(1), 0);
        Doc.due("either of two", Check.told("part take 0 take 7 go 1 with 0 go 1 with 7;part win;").things(1), 0);
        Doc.due("both", Check.told("part take 0 take 7 go 1 with 0;part go 2 with 7;part win;").things(1), 129);
        Doc.due("its other EFFECTS are done", Check.told("health 1;part take 0 heal 1 go 1;part hurt 1 win;").things(1), 0);
        Doc.due("never had", Check.told("part go 1 without 3;part win;").things(1), 0);
        Doc.due("in the way", Check.told("part go 1 go 2;part take 3 go 2;part go 3 without 3;part win;").things(1), 0);
    }

    private static void wrong() {
        Doc.term(3, "THE LOG is a row of PARTS (60 at most)");
        ChoiceBook x = Check.told("part go 0 go 1;part;");
        for (int i = 1; i <= 60; i++) {
            Doc.due("log", x.log(0), i);
        }
        Doc.due("a 61st", x.log(0), FULL);
        Doc.due("all 60 are read", x.judge(), NONE);
        Doc.term(3, "WRONG at the first one (0 on) that is not PART 0 (the first), or to which one cannot go from the one ahead, as one is then");
        Doc.due("the first is PART 0", judged(x, 0), NONE);
        Doc.due("the first is not", judged(x, 1), 0);
        Doc.due("the first is not", judged(x, 1, 0, 0), 0);
        Doc.due("no way", judged(x, 0, 1, 1), 2);
        Doc.due("the first such", judged(x, 0, 1, 1, 1, 0), 2);
        Doc.due("to itself", judged(x, 0, 0, 0, 1), NONE);
        int[] most = new int[60];
        most[58] = 1;
        Doc.due("at the 60th", judged(x, most), 59);
        ChoiceBook y = Check.told("part go 1 go 2;part take 0 go 0 without 0 go 2;part roll 4 0 1;part;");
        Doc.due("shut, as one is then", judged(y, 0, 1, 0), 2);
        Doc.due("P", judged(y, 0, 2, 0), NONE);
        Doc.due("Q", judged(y, 0, 2, 1), NONE);
        Doc.due("neither", judged(y, 0, 2, 2), 2);
        Doc.due("from STUCK", judged(y, 0, 3), 1);
    }

    private static int judged(ChoiceBook x, int... row) {
        x.clear();
        for (int p : row) {
            x.log(p);
        }
        return x.judge();
    }

    private static void nothingBehind() {
        Doc.term(3, "behind WON, LOST nothing can come");
        ChoiceBook x = Check.told("part go 1 go 2 go 3 go 0;part win;part die;part hurt 3 go 3 go 0;");
        Doc.due("WON", judged(x, 0, 1), NONE);
        Doc.due("behind WON", judged(x, 0, 1, 0), 2);
        Doc.due("LOST by die", judged(x, 0, 2), NONE);
        Doc.due("behind die", judged(x, 0, 2, 0), 2);
        Doc.due("a wound", judged(x, 0, 3, 0, 3), NONE);
        Doc.due("behind LOST by wounds", judged(x, 0, 3, 0, 3, 0), 4);
        Doc.due("LOST at the BEGINNING", judged(Check.told("part hurt 5 go 0;"), 0, 0), 1);
        Doc.due("WON at the BEGINNING", judged(Check.told("part win;"), 0, 0), 1);
    }

    private static void parts() {
        Doc.promise(19, "what = 0 at which some STATE is COME TO (LOST ones, too)");
        Doc.due("LOST by die", Check.told("part go 1;part die;").parts(0), 3);
        Doc.due("LOST by a wound", Check.told("part go 1;part hurt 9 go 2;part;").parts(0), 3);
        Doc.due("LOST at once", Check.told("part hurt 5;").parts(0), 1);
        Doc.due("all 24", Check.told("part go1go2go3go4go5go6;part go7go8go9go10go11;part go12go13go14go15go16;"
            + "part go17go18go19go20go21;part go22go23;" + "part;".repeat(19)).parts(0), (1 << 24) - 1);
        Doc.promise(19, "the SET. OUTSIDE.");
        ChoiceBook x = new ChoiceBook();
        for (int what = 0; what < 4; what++) {
            Doc.due("no PARTS", x.parts(what), 0);
        }
        Doc.all("what too small or too large", OUTSIDE, x.parts(-1), x.parts(4), x.parts(LOW), x.parts(HIGH));
        Check.feed(x, "part win;").book();
        Doc.all("what too small or too large", OUTSIDE, x.parts(-1), x.parts(4), x.parts(LOW), x.parts(HIGH));
    }

    private static void things() {
        Doc.promise(20, "what = 0 that are had in some STATE that is COME TO");
        Doc.due("none", Check.told("part;").things(0), 0);
        Doc.due("0 and 7", Check.told("part go 1 go 2;part take 0;part take 7;").things(0), 129);
        Doc.due("all", Check.told("part take 0 take 1 take 2 take 3 go 1;part take 4 take 5 take 6 take 7;").things(0), 255);
        Doc.due("dropped at once", Check.told("part take 3 drop 3;").things(0), 0);
        Doc.due("dropped later", Check.told("part take 3 go 1;part drop 3;").things(0), 8);
        Doc.due("nobody comes to it", Check.told("part;part take 3;").things(0), 0);
        Doc.promise(20, "the SET. OUTSIDE.");
        ChoiceBook x = new ChoiceBook();
        Doc.all("no PARTS", 0, x.things(0), x.things(1));
        Doc.all("what too small or too large", OUTSIDE, x.things(-1), x.things(2), x.things(LOW), x.things(HIGH));
    }

    private static void without() {
        Doc.promise(21, "ODDS of the BEGINNING in t TURNS, were a THING not to be had.");
        ChoiceBook x = Check.told("part take 7 go 1 with 7 go 2;part win;part roll 6 1 3;part die;");
        Doc.due("another one", x.without(0, 1), MILLION);
        Doc.due("the key, t 1", x.without(7, 1), 0);
        Doc.due("the key, t 2", x.without(7, 2), 166666);
        Doc.due("t 60", x.without(7, 60), 166666);
        Doc.due("t 0", x.without(0, 0), 0);
        Doc.due("WON, t 0", Check.told("part take 0 win;").without(0, 0), MILLION);
        Doc.due("LOST", Check.told("part take 0 hurt 5 win;").without(0, 60), 0);
        x.begin();
        x.choose(0);
        Doc.due("of the BEGINNING", x.without(7, 60), 166666);
        Doc.due("of now", x.odds(0), MILLION);
        Doc.due("both ways of a roll", Check.told("part roll 4 1 2;part win;part go 1;").without(0, 2), MILLION);
        Doc.due("better without", Check.told("part take 5 go 1 without 5;part win;").without(5, 1), MILLION);
        Doc.promise(21, "UNKNOWN, OUTSIDE, NOT: there are no PARTS.");
        ChoiceBook none = new ChoiceBook();
        Doc.all("no such THING", UNKNOWN, x.without(-1, 0), x.without(8, 0), x.without(LOW, 0), x.without(HIGH, 0));
        Doc.all("t too small or too large", OUTSIDE, x.without(0, -1), x.without(7, 61), x.without(0, LOW), x.without(0, HIGH));
        Doc.all("no PARTS", NOT, none.without(0, 0), none.without(7, 60));
        Doc.all("UNKNOWN ahead of OUTSIDE and NOT", UNKNOWN, x.without(8, 61), none.without(-1, -1), none.without(8, 0));
        Doc.all("OUTSIDE ahead of NOT", OUTSIDE, none.without(0, -1), none.without(7, 61));
    }

    private static void log() {
        Doc.promise(22, "UNKNOWN, FULL.");
        ChoiceBook x = Check.told("part;part;");
        Doc.all("no such PART", UNKNOWN, x.log(-1), x.log(2), x.log(LOW), x.log(HIGH), new ChoiceBook().log(0));
        Doc.due("none of them came", x.count(3), 0);
        for (int i = 1; i <= 60; i++) {
            Doc.due("log", x.log(i % 2), i);
        }
        Doc.all("full", FULL, x.log(0), x.log(1));
        Doc.all("UNKNOWN ahead of FULL", UNKNOWN, x.log(-1), x.log(2));
        Doc.due("60 still", x.count(3), 60);
    }

    private static void clear() {
        Doc.promise(23, "THE LOG is empty: how many it had.");
        ChoiceBook x = Check.told("part;part;");
        Doc.due("none", x.clear(), 0);
        for (int i = 0; i < 60; i++) {
            x.log(1);
        }
        Doc.due("a full one", x.clear(), 60);
        Doc.due("empty then", x.count(3), 0);
        Doc.due("nothing is WRONG", x.judge(), NONE);
        Doc.due("room again", x.log(0), 1);
        Doc.due("one", x.clear(), 1);
    }

    private static void judge() {
        Doc.promise(24, "The first PART of THE LOG that is WRONG; NONE.");
        ChoiceBook x = new ChoiceBook();
        Doc.due("no PARTS, no LOG", x.judge(), NONE);
        Check.feed(x, "part go 1;part take 0 go 0;").book();
        Doc.due("an empty LOG", x.judge(), NONE);
        Doc.due("the place, not the PART", judged(x, 0, 1, 0, 0, 1), 3);
        x.link(0, 0, 0, NONE);
        Doc.due("by CHOICES as they are now", x.judge(), NONE);
        x.begin();
        x.choose(0);
        Doc.due("wherever one is", judged(x, 0, 1), NONE);
        Doc.due("it moves nobody", x.now(0), 1);
        x.log(0);
        Check.feed(x, "part;").book();
        Doc.due("another book empties it", x.judge(), NONE);
        // IMAGES do not keep THE LOG, so it may have PARTS that are none any more.
        x.keep(0);
        Check.feed(x, "part go 1;part;").book();
        Doc.due("a way", judged(x, 0, 1), NONE);
        x.goBack(0);
        Doc.due("one cannot go to what is no PART", x.judge(), 1);
    }
}
