/** Reading and odds: the boundary cases' sentences of term 2 and of promises 11 to 18, one by one. */
public final class EdgeReadTest {
    private static final int NONE = Doc.NONE, UNKNOWN = Doc.UNKNOWN, OUTSIDE = Doc.OUTSIDE, NOT = Doc.NOT;
    private static final int LOW = Doc.LOW, HIGH = Doc.HIGH;
    private static final int MILLION = 1000000;

    public static void main(String[] args) {
        effects();
        ends();
        open();
        dice();
        beginning();
        oddsOfStates();
        oddsCut();
        begin();
        choose();
        roll();
        now();
        nowOver();
        odds();
        advice();
        fewest();
        surely();
        Doc.end(11, 18);
    }

    private static ChoiceBook begun(String text) {
        ChoiceBook x = Check.told(text);
        x.begin();
        return x;
    }

    private static void effects() {
        Doc.term(2, "its EFFECTS are done in order: one has a THING, or has it no more");
        Doc.due("taken twice", begun("part take 7 take 7;").now(1), 128);
        Doc.due("dropped, not had", begun("part drop 0 take 0;").now(1), 1);
        Doc.due("taken, then dropped", begun("part take 0 take 7 drop 0;").now(1), 128);
        Doc.due("all but one", begun("part drop 3 take 0 take 1 take 2;").now(1), 7);
        Doc.term(2, "HEALTH is less or more, 9 at most");
        Doc.due("9 and 1", begun("health 9;part heal 1;").now(2), 9);
        Doc.due("8 and 1", begun("health 8;part heal 1;").now(2), 9);
        Doc.due("5 and 3", begun("part heal 3;").now(2), 8);
        Doc.due("1 and 9", begun("health 1;part heal 9;").now(2), 9);
        Doc.due("9, then 8 less", begun("health 9;part heal 9 hurt 8;").now(2), 1);
        Doc.due("what is above 9 does not count later", begun("health 9;part heal 9 hurt 9;").now(4), 2);
        Doc.term(2, "with HEALTH 0 or less one is LOST at once (HEALTH 0 then, later EFFECTS are not done)");
        Doc.due("1 left", begun("part hurt 4 win;").now(4), 1);
        ChoiceBook nought = begun("part take 2 hurt 5 take 1 heal 9 win;");
        Doc.due("0 left", nought.now(4), 2);
        Doc.due("HEALTH", nought.now(2), 0);
        Doc.due("THINGS of earlier EFFECTS", nought.now(1), 4);
        ChoiceBook below = begun("health 1;part hurt 9 take 1;");
        Doc.due("below 0", below.now(4), 2);
        Doc.due("HEALTH 0 then", below.now(2), 0);
        Doc.due("later EFFECTS", below.now(1), 0);
        Doc.due("drops that come later", begun("part take 1 hurt 9 drop 1;").now(1), 2);
    }

    private static void ends() {
        Doc.term(2, "Then at 'win' one has WON, at 'die' one is LOST.");
        Doc.due("win", begun("part win;").now(4), 1);
        Doc.due("a wound ahead of win", begun("part hurt 5 win;").now(4), 2);
        ChoiceBook die = begun("part take 0 heal 1 die;");
        Doc.due("die", die.now(4), 2);
        Doc.due("EFFECTS ahead of die", die.now(1), 1);
        Doc.due("HEALTH at die", die.now(2), 6);
        Doc.term(2, "With no CHOICE OPEN (or none at all) one is STUCK.");
        Doc.due("none at all", begun("part;").now(4), 3);
        Doc.due("EFFECTS alone", begun("part take 1;").now(4), 3);
        Doc.due("none OPEN", begun("part go 0 with 1 go 0 with 2;").now(4), 3);
        Doc.due("one OPEN", begun("part go 0 with 1 go 0 without 1;").now(4), 0);
        Doc.due("LOST ahead of STUCK", begun("part hurt 9;").now(4), 2);
        Doc.due("a roll", begun("part roll 6 0 0;").now(4), 0);
        Doc.term(2, "To go to a PART is a TURN.");
        ChoiceBook x = begun("part go 0 go 1;part roll 2 1 1;");
        Doc.due("to BEGIN is none", x.now(3), 0);
        x.choose(0);
        Doc.due("to where one is", x.now(3), 1);
        x.choose(1);
        x.roll(6);
        Doc.due("by a CHOICE and by a roll", x.now(3), 3);
    }

    private static void open() {
        Doc.term(2, "A CHOICE is OPEN, if one has what it is 'with', and has not what it is 'without'.");
        String choices = "go 0 go 0 with 0 go 0 without 0 go 0 with 0 without 7 go 0 with 7 without 0 go 0 with 7 without 7;";
        Doc.due("with nothing", begun("part " + choices).now(5), 1 + 4);
        Doc.due("with 0", begun("part take 0 " + choices).now(5), 1 + 2 + 8);
        Doc.due("with 7", begun("part take 7 " + choices).now(5), 1 + 4 + 16);
        Doc.due("with both", begun("part take 0 take 7 " + choices).now(5), 1 + 2);
    }

    private static void dice() {
        Doc.term(2, "At a roll one goes on to P by N or more of a die of 1 to 6, else to Q.");
        for (int n = 2; n <= 6; n++) {
            ChoiceBook x = Check.told("part roll " + n + " 1 2;part win;part die;");
            for (int v = 1; v <= 6; v++) {
                x.begin();
                Doc.due("a " + v + " by " + n, x.roll(v), v >= n ? 1 : 2);
            }
            x.begin();
            Doc.due("faces from " + n + " on", x.odds(1), (7 - n) * MILLION / 6);
        }
    }

    private static void beginning() {
        Doc.term(2, "One BEGINS without THINGS, with the told HEALTH, by coming to PART 0. (Without PARTS nothing can begin.)");
        ChoiceBook x = begun("health 3;part hurt 1 go 1;part take 5 hurt 1 go 0;");
        Doc.due("HEALTH behind PART 0", x.now(2), 2);
        x.choose(0);
        Doc.due("a THING", x.now(1), 32);
        Doc.due("begun anew", x.begin(), 0);
        Doc.due("without THINGS", x.now(1), 0);
        Doc.due("with the told HEALTH", x.now(2), 2);
        Doc.due("PART 0", x.now(0), 0);
        Doc.due("LOST by coming to PART 0", begun("health 1;part hurt 1;").now(4), 2);
        ChoiceBook none = Check.told("health 3;");
        Doc.all("without PARTS", NOT, none.begin(), none.blind(1), none.without(0, 0), none.now(0));
        Doc.due("without PARTS", none.count(5), 0);
    }

    private static void oddsOfStates() {
        Doc.term(2, "a MILLION, if one has WON; else 0, if one is LOST, STUCK, or t is 0");
        Doc.due("WON, t 0", begun("part win;").odds(0), MILLION);
        Doc.due("WON, t 60", begun("part win;").odds(60), MILLION);
        Doc.due("LOST by die", begun("part die;").odds(60), 0);
        Doc.due("LOST by a wound at win", begun("part hurt 9 win;").odds(60), 0);
        Doc.due("LOST with a CHOICE to win", begun("part hurt 9 go 1;part win;").odds(60), 0);
        Doc.due("STUCK", begun("part go 1 with 0;part win;").odds(60), 0);
        Doc.due("t 0", begun("part go 1;part win;").odds(0), 0);
        Doc.due("t 1", begun("part go 1;part win;").odds(1), MILLION);
        Doc.due("t 0 at a roll", begun("part roll 2 1 1;part win;").odds(0), 0);
        Doc.term(2, "else at CHOICES the greatest of those that are OPEN with t less 1");
        ChoiceBook x = begun("part go 3 with 0 go 1 go 2 go 4;part roll 6 3 4;part roll 4 3 4;part win;part die;");
        Doc.due("t 1", x.odds(1), 0);
        Doc.due("t 2: not the shut one, the greatest of the others", x.odds(2), 500000);
        Doc.due("more TURNS are no more", x.odds(60), 500000);
    }

    private static void oddsCut() {
        Doc.term(2, "and how many to Q, times ODDS there, with t less 1) / 6");
        Doc.due("1 of 6", begun("part roll 6 1 2;part win;part die;").odds(1), 166666);
        Doc.due("5 of 6", begun("part roll 2 1 2;part win;part die;").odds(1), 833333);
        // Cut at each roll: 166666 / 6 is 27777 and 4 over, 5 times 166666 / 6 is 138888 and 2 over.
        Doc.due("1 of 6 twice", begun("part roll 6 1 3;part roll 6 2 3;part win;part die;").odds(2), 27777);
        Doc.due("5 of 6 and 1 of 6", begun("part roll 2 1 3;part roll 6 2 3;part win;part die;").odds(2), 138888);
        // The sum is cut, not its addends: (5 times 166666 and 1 times 833333) / 6 is 277777 and 1 over.
        Doc.due("the sum is cut", begun("part roll 2 1 2;part roll 6 3 4;part roll 2 3 4;part win;part die;").odds(2), 277777);
        Doc.due("both ways won", begun("part roll 3 1 1;part win;").odds(1), MILLION);
    }

    private static void begin() {
        Doc.promise(11, "how it stands (0 going on, 1 WON, 2 LOST, 3 STUCK)");
        String[] texts = {"part go 0;", "part win;", "part die;", "part;"};
        for (int i = 0; i < 4; i++) {
            ChoiceBook x = Check.told(texts[i]);
            Doc.due(texts[i], x.begin(), i);
            Doc.due(texts[i] + " anew", x.begin(), i);
            Doc.due(texts[i] + " now", x.now(4), i);
        }
        Doc.promise(11, "NOT: there are no PARTS.");
        ChoiceBook x = new ChoiceBook();
        Doc.due("a new object", x.begin(), NOT);
        x.book();
        Doc.due("an empty book", x.begin(), NOT);
        Check.feed(x, "part;").book();
        Doc.due("a PART", x.begin(), 3);
        x.book();
        Doc.due("an empty book again", x.begin(), NOT);
        Doc.due("not begun", x.now(0), NOT);
    }

    private static void choose() {
        Doc.promise(12, "NOT: one has not begun (whatever k is).");
        ChoiceBook x = new ChoiceBook();
        Doc.all("no PARTS", NOT, x.choose(0), x.choose(-1), x.choose(6), x.choose(LOW), x.choose(HIGH));
        Check.feed(x, "part go 0 go 1 with 0;part hurt 5 go 0;").book();
        Doc.all("not begun", NOT, x.choose(0), x.choose(2), x.choose(-1), x.choose(LOW), x.choose(HIGH));
        Doc.promise(12, "UNKNOWN (the PART where one is has no CHOICE k), NOT: it is not OPEN, or it is over.");
        x.begin();
        Doc.all("no CHOICE k", UNKNOWN, x.choose(2), x.choose(-1), x.choose(6), x.choose(LOW), x.choose(HIGH));
        Doc.all("less than 6, more than it has", UNKNOWN, x.choose(3), x.choose(5));
        Doc.due("not OPEN", x.choose(1), NOT);
        Doc.due("no TURN", x.now(3), 0);
        x.unlink(0, 1);
        Doc.due("no CHOICE k any more", x.choose(1), UNKNOWN);
        x.link(0, 1, NONE, 0);
        Doc.due("put in", x.choose(1), 2);
        Doc.due("over, with such a CHOICE", x.choose(0), NOT);
        Doc.all("over, without such a CHOICE", UNKNOWN, x.choose(1), x.choose(-1));
        Doc.due("LOST still, at one TURN", x.now(3), 1);
        Doc.all("WON has no CHOICES", UNKNOWN, begun("part win;").choose(0), begun("part win;").choose(-1));
        Doc.due("a roll has no CHOICES", begun("part roll 2 0 0;").choose(0), UNKNOWN);
        Doc.due("STUCK", begun("part go 0 with 0;").choose(0), NOT);
        Doc.due("the sixth", begun("part go 0 go 0 go 0 go 0 go 0 go 1;part win;").choose(5), 1);
    }

    private static void roll() {
        Doc.promise(13, "A roll of v (1 .. 6; NONE: by a DRAW of 6 and 1)");
        ChoiceBook x = begun("part roll 2 1 2;part win;part die;");
        Doc.due("a 1", x.roll(1), 2);
        x.begin();
        Doc.due("a 6", x.roll(6), 1);
        Doc.due("no DRAW by a told roll", x.seed(0), 0);
        x.begin();
        // The first DRAW from 0 is 12345 / 65536 = 0, and 1: less than 2.
        Doc.due("a DRAW", x.roll(NONE), 2);
        Doc.due("it is drawn", x.seed(12345), 12345);
        x.begin();
        // The next is 1406932606 / 65536 = 21468, left over by 6 is 0, and 1: less than 2.
        Doc.due("a DRAW", x.roll(NONE), 2);
        Doc.due("it is drawn", x.seed(1406932606), 1406932606);
        x.begin();
        // The next is 654583775 / 65536 = 9988, left over by 6 is 4, and 1.
        Doc.due("a DRAW", x.roll(NONE), 1);
        Doc.due("it is drawn", x.seed(0), 654583775);
        Doc.promise(13, "OUTSIDE, NOT: one is at no roll, or has not begun, or it is over.");
        x = Check.told("part go 1;part hurt 1 roll 6 1 0;");
        Doc.all("OUTSIDE ahead of NOT", OUTSIDE, x.roll(0), x.roll(7), x.roll(-2), x.roll(LOW), x.roll(HIGH));
        Doc.all("not begun", NOT, x.roll(1), x.roll(6), x.roll(NONE));
        x.begin();
        Doc.all("at no roll", NOT, x.roll(1), x.roll(6), x.roll(NONE));
        Doc.all("at no roll", OUTSIDE, x.roll(0), x.roll(7), x.roll(-2));
        x.choose(0);
        Doc.all("v too small or too large", OUTSIDE, x.roll(0), x.roll(7), x.roll(-2), x.roll(LOW), x.roll(HIGH));
        for (int i = 0; i < 4; i++) {
            x.roll(6);
        }
        Doc.due("LOST at a roll", x.now(4), 2);
        Doc.all("over", NOT, x.roll(1), x.roll(6), x.roll(NONE));
        Doc.due("no DRAW by a refused roll", x.seed(0), 0);
    }

    private static void now() {
        Doc.promise(14, "4 how it stands (by CHOICES as they are now)");
        ChoiceBook x = begun("part go 0 with 0;");
        Doc.due("STUCK", x.now(4), 3);
        x.link(0, 0, NONE, NONE);
        Doc.due("going on", x.now(4), 0);
        Doc.due("the new one", x.now(5), 2);
        x.unlink(0, 1);
        Doc.due("STUCK again", x.now(4), 3);
        Doc.promise(14, "OUTSIDE, NOT: one has not begun.");
        Doc.all("what too small or too large", OUTSIDE, x.now(-1), x.now(6), x.now(LOW), x.now(HIGH));
        x.book();
        for (int what = 0; what < 6; what++) {
            Doc.due("not begun", x.now(what), NOT);
        }
        Doc.all("OUTSIDE ahead of NOT", OUTSIDE, x.now(-1), x.now(6));
    }

    private static void nowOver() {
        Doc.promise(14, "5 CHOICES that are OPEN (a SET; 0 when it is over)");
        Doc.due("all six", begun("part go 0 go 0 go 0 go 0 go 0 go 0;").now(5), 63);
        Doc.due("LOST with CHOICES", begun("part hurt 5 go 0 go 0;").now(5), 0);
        Doc.due("WON", begun("part win;").now(5), 0);
        Doc.due("STUCK", begun("part go 0 with 1;").now(5), 0);
        Doc.due("a roll", begun("part roll 2 0 0;").now(5), 0);
        ChoiceBook lost = begun("part go 1;part take 6 hurt 7 go 0;");
        lost.choose(0);
        lost.link(1, 0, NONE, NONE);
        Doc.due("LOST, a CHOICE put in", lost.now(5), 0);
        int[] rest = {1, 64, 0, 1, 2};
        for (int what = 0; what < 5; what++) {
            Doc.due("LOST, what " + what, lost.now(what), rest[what]);
        }
    }

    private static void odds() {
        Doc.promise(15, "ODDS from now in t TURNS (0 .. 60).");
        ChoiceBook x = line(20);
        Doc.due("59", x.odds(59), 0);
        Doc.due("60", x.odds(60), MILLION);
        x = line(21);
        Doc.due("61 TURNS to the win", x.odds(60), 0);
        x.choose(0);
        Doc.due("one TURN later", x.odds(60), MILLION);
        Doc.due("one TURN later", x.odds(59), 0);
        // One is where nobody comes to any more, since the way there is struck out.
        ChoiceBook y = begun("part go 1;part take 0 roll 4 2 3;part win;part go 2 with 0;");
        y.choose(0);
        y.unlink(0, 0);
        Doc.due("from now, not from the BEGINNING, t 1", y.odds(1), 500000);
        Doc.due("from now, not from the BEGINNING, t 2", y.odds(2), MILLION);
        Doc.promise(15, "OUTSIDE, NOT.");
        Doc.all("t too small or too large", OUTSIDE, x.odds(-1), x.odds(61), x.odds(LOW), x.odds(HIGH));
        x.book();
        Doc.all("not begun", NOT, x.odds(0), x.odds(60));
        Doc.all("OUTSIDE ahead of NOT", OUTSIDE, x.odds(-1), x.odds(61));
    }

    /** Two rounds of 20 TURNS, told apart by THINGS 0 and 1, then some 20 TURNS to the win: 40 and that many. */
    private static ChoiceBook line(int behind) {
        StringBuilder text = new StringBuilder();
        for (int p = 0; p < 18; p++) {
            text.append("part go ").append(p + 1).append(";");
        }
        text.append("part go 19 without 0 go 20 with 0 without 1 go 21 with 1;");
        text.append("part take 0 go 0;part take 1 go 0;");
        return begun(text.append(behind == 20 ? "part go 23;part;part win;" : "part go 22;part go 23;part win;").toString());
    }

    private static void advice() {
        Doc.promise(16, "The CHOICE that is OPEN and has the greatest ODDS in t TURNS (1 .. 60) (of like ones the least)");
        ChoiceBook x = begun("part go 2 with 0 go 3 go 1 go 2 go 2;part go 2;part win;part die;");
        Doc.due("t 1: the least of like ones, not the shut one", x.advice(1), 3);
        Doc.due("t 2: 2 is like it, and less", x.advice(2), 2);
        Doc.due("t 60", x.advice(60), 2);
        Doc.due("a lesser one behind it", begun("part go 1 go 2;part win;part die;").advice(60), 0);
        Doc.due("all 0: the least that is OPEN", begun("part go 0 with 0 go 0 go 0;").advice(60), 1);
        ChoiceBook far = line(20);
        far.link(0, 22, NONE, NONE);
        far.unlink(0, 0);
        far.link(0, 1, NONE, NONE);
        Doc.due("t 59: both 0", far.advice(59), 0);
        Doc.due("t 60: a win at the 60th", far.advice(60), 1);
        Doc.promise(16, "NONE: there is none, or it is over.");
        Doc.all("none", NONE, begun("part;").advice(1), begun("part go 0 with 0;").advice(60), begun("part roll 2 0 0;").advice(60));
        Doc.all("over", NONE, begun("part win;").advice(1), begun("part die;").advice(1), begun("part hurt 9 go 0;").advice(60));
        Doc.promise(16, "OUTSIDE, NOT.");
        Doc.all("t too small or too large", OUTSIDE, x.advice(0), x.advice(61), x.advice(-1), x.advice(LOW), x.advice(HIGH));
        x.book();
        Doc.all("not begun", NOT, x.advice(1), x.advice(60));
        Doc.all("OUTSIDE ahead of NOT", OUTSIDE, x.advice(0), x.advice(61));
    }

    private static void fewest() {
        Doc.term(2, "FEWEST: the least TURNS to WON, if one rolls what one likes");
        Doc.due("by a 6", begun("part roll 6 1 2;part win;part die;").fewest(), 1);
        Doc.due("by a 1", begun("part roll 2 2 1;part win;part die;").fewest(), 1);
        Doc.due("the short way", begun("part go 1 go 2;part go 2;part roll 6 3 4;part win;part die;").fewest(), 2);
        Doc.due("more than 60", line(21).fewest(), 61);
        Doc.promise(17, "FEWEST from now; NONE. NOT.");
        Doc.due("WON", begun("part win;").fewest(), 0);
        Doc.all("none", NONE, begun("part die;").fewest(), begun("part;").fewest(), begun("part go 0;").fewest(),
            begun("part hurt 9 win;").fewest(), begun("part go 1 with 0;part win;").fewest(), begun("part roll 2 0 0;part win;").fewest());
        ChoiceBook x = begun("part go 1;part go 2;part win;");
        x.choose(0);
        Doc.due("from now", x.fewest(), 1);
        Doc.all("not begun", NOT, Check.told("part win;").fewest(), new ChoiceBook().fewest());
    }

    private static void surely() {
        Doc.term(2, "SURELY: the least t so that one has WON in t TURNS whatever one rolls, by good CHOICES (60 at most)");
        Doc.due("60", line(20).surely(), 60);
        Doc.due("61", line(21).surely(), NONE);
        Doc.due("the worst roll counts", begun("part roll 6 1 2;part win;part go 1;").surely(), 2);
        Doc.due("a roll that may lose", begun("part roll 2 1 2;part win;part die;").surely(), NONE);
        Doc.due("a roll that may come again for ever", begun("part roll 2 1 0;part win;").surely(), NONE);
        Doc.due("by good CHOICES", begun("part go 3 go 1 go 2;part roll 2 2 3;part win;part die;").surely(), 1);
        Doc.promise(18, "SURELY from now; NONE. NOT.");
        Doc.due("WON", begun("part win;").surely(), 0);
        Doc.all("none", NONE, begun("part die;").surely(), begun("part;").surely(), begun("part go 0;").surely(),
            begun("part hurt 9 win;").surely());
        ChoiceBook x = begun("part roll 6 2 1;part go 2;part win;");
        Doc.due("ahead of the roll", x.surely(), 2);
        x.roll(1);
        Doc.due("from now", x.surely(), 1);
        Doc.all("not begun", NOT, Check.told("part win;").surely(), new ChoiceBook().surely());
    }
}
