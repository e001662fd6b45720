/** THE TEXT and THE BOOK: the boundary cases' sentences of term 1 and of promises 1 to 10, one by one. */
public final class EdgeBookTest {
    private static final int NONE = Doc.NONE, UNKNOWN = Doc.UNKNOWN, OUTSIDE = Doc.OUTSIDE, NOT = Doc.NOT, FULL = Doc.FULL;
    private static final int LOW = Doc.LOW, HIGH = Doc.HIGH;
    private static final String FOUR = "take 0 drop 7 hurt 1 heal 9";

    public static void main(String[] args) {
        bounds();
        most();
        signs();
        firstFault();
        kindsOfFault();
        emptyAndLines();
        newObject();
        feed();
        book();
        fault();
        part();
        effect();
        choice();
        link();
        unlink();
        count();
        Doc.end(1, 10);
    }

    /** What a text answers in a new object: how many PARTS and no FAULT. */
    private static void sound(String text, int parts) {
        fault(text, parts, NONE);
    }

    private static void fault(String text, int answer, int place) {
        ChoiceBook x = Check.feed(new ChoiceBook(), text);
        Doc.due("book() of '" + text + "'", x.book(), answer);
        Doc.due("fault() of '" + text + "'", x.fault(), place);
    }

    private static void bounds() {
        Doc.term(1, "THINGS are 0 to 7.");
        for (String word : new String[] {"take ", "drop ", "go 0 with ", "go 0 without "}) {
            sound("part " + word + "0;", 1);
            sound("part " + word + "7;", 1);
            fault("part " + word + "8;", -12, 5 + word.length());
            fault("part " + word + "99;", -12, 5 + word.length());
        }
        Doc.term(1, "'health' N ';' (1 .. 9; 5 untold; once)");
        sound("health 1;", 0);
        sound("health 9;", 0);
        fault("health 0;", -12, 7);
        fault("health 10;", -12, 7);
        fault("health 3;part;health 3;", -13, 14);
        Doc.due("untold", Check.told("part;").count(2), 5);
        Doc.due("told least", Check.told("health 1;part;").count(2), 1);
        Doc.due("told most", Check.told("part;health 9;").count(2), 9);
        Doc.term(1, "'hurt' N | 'heal' N (N 1 .. 9; 4 EFFECTS at most)");
        for (String word : new String[] {"hurt ", "heal "}) {
            sound("part " + word + "1;", 1);
            sound("part " + word + "9;", 1);
            fault("part " + word + "0;", -12, 10);
            fault("part " + word + "10;", -12, 10);
        }
        sound("part " + FOUR + ";", 1);
        fault("part " + FOUR + " heal 1;", -13, 33);
        Doc.term(1, "'roll' N P Q (N 2 .. 6)");
        sound("part roll 2 0 0;", 1);
        sound("part roll 6 0 0;", 1);
        fault("part roll 1 0 0;", -12, 10);
        fault("part roll 0 0 0;", -12, 10);
        fault("part roll 7 0 0;", -12, 10);
        Doc.term(1, "I 0 .. 7, P, Q 0 .. 23.");
        String others = "part;".repeat(23);
        sound("part go 0 go 23;" + others, 24);
        sound("part roll 2 23 0;" + others, 24);
        sound("part roll 2 0 23;" + others, 24);
        fault("part go 24;" + others, -12, 8);
        fault("part roll 2 24 0;" + others, -12, 12);
        fault("part roll 2 0 24;" + others, -12, 14);
    }

    private static void most() {
        Doc.term(1, "THE BOOK is told in a text (600 bytes at most)");
        sound(" ".repeat(300) + "part;" + " ".repeat(295), 1);
        sound(" ".repeat(595) + "part;", 1);
        ChoiceBook x = Check.feed(new ChoiceBook(), " ".repeat(600));
        Doc.due("600 bytes", x.count(4), 600);
        Doc.due("one more", x.feed(1, ';'), FULL);
        Doc.due("600 bytes still", x.count(4), 600);
        Doc.due("the one more is none of it", x.book(), 0);
        Doc.term(1, "(PARTS, 24 at most)");
        sound("part;".repeat(24), 24);
        fault("part;".repeat(25), -13, 120);
        Doc.term(1, "(6 CHOICES at most)");
        sound("part" + " go 0 with 1 without 2".repeat(6) + ";", 1);
        fault("part" + " go 0".repeat(7) + ";", -13, 35);
        Doc.due("6 CHOICES", Check.told("part" + " go 0".repeat(6) + ";").part(0, 2), 6);
    }

    private static void signs() {
        Doc.term(1, "NUMBERS have one or two figures");
        sound("health 9;part take 7 go 0;", 1);
        sound("health 09;part take 07 go 00;", 1);
        fault("health 009;", -12, 7);
        fault("part go 000;", -12, 8);
        Doc.term(1, "words are letters a .. z side by side");
        fault("Part;", -11, 0);
        fault("paRt;", -11, 0);
        fault("partA;", -11, 4);
        fault("part`;", -11, 4);
        fault("part{;", -11, 4);
        fault("parta;", -11, 0);
        fault("partz;", -11, 0);
        fault("part_win;", -11, 4);
        Doc.term(1, "blanks (32) may stand anywhere but within words and NUMBERS");
        sound("   health   5   ;   part   take   1   go   0   with   1   without   2   ;   ", 1);
        sound("health5;part take1go0with1without2;", 1);
        fault("pa rt;", -11, 0);
        fault("health 0 5;", -12, 7);
        fault("part go 0 0;", -11, 10);
        fault("part go 0 with out 1;", -11, 15);
        for (int sign : new int[] {0, 9, 10, 13, 31, 33, 127, 128, 160, 255}) {
            fault("part" + (char) sign + "win;", -11, 4);
        }
        Doc.term(1, "two words, two NUMBERS side by side need one");
        fault("partwin;", -11, 0);
        fault("part take 1drop 1hurt 1healwin;", -11, 23);
        sound("part take 1drop 1hurt 1win;", 1);
        fault("part roll 2 00;", -11, 14);
        fault("part roll 20 0;", -12, 10);
        sound("part roll2 0 0;", 1);
    }

    private static void firstFault() {
        Doc.term(1, "FAULTS, at the first byte that has one (the end at the text's length), of these the least");
        fault("part take 8 take 8;!", -12, 10);
        fault("health 1;health 0;!", -13, 9);
        fault("!health 0;", -11, 0);
        fault("part", -11, 4);
        fault("part   ", -11, 7);
        fault("part;part go", -11, 12);
        fault("part roll 2 0 0", -11, 15);
        fault("health 5", -11, 8);
        fault(" ".repeat(596) + "part", -11, 600);
        fault(" ".repeat(591) + "part go 0", -11, 600);
        // What an earlier text had at that place is none of this one.
        ChoiceBook x = Check.feed(new ChoiceBook(), "part go 1234;");
        x.book();
        Doc.due("a shorter text", Check.feed(x, "part go 1").book(), -11);
        Doc.due("its end", x.fault(), 9);
        Check.feed(x, "part winwinwin;").book();
        Doc.due("a shorter text", Check.feed(x, "part win").book(), -11);
        Doc.due("its end", x.fault(), 8);
        // Words and NUMBERS that have a FAULT of two kinds at one byte.
        fault("part 100;", -11, 5);
        fault("part;".repeat(23) + "part part;", -11, 120);
        fault("health 5;part health 5;", -11, 14);
        fault("part " + FOUR + " win take 0;", -11, 37);
        fault("part" + " go 0".repeat(6) + " win go 0;", -11, 35);
    }

    private static void kindsOfFault() {
        Doc.term(1, "1 it cannot stand there (a word that cannot: at its first letter)");
        fault("part takes 1;", -11, 5);
        fault("part tak 1;", -11, 5);
        String[] unlike = {"cart", "parz", "iart"};
        for (String word : unlike) {
            fault(word + ";", -11, 0);
        }
        fault("part;wealth 5;", -11, 5);
        fault("part no 0;", -11, 5);
        fault("part go 0 pith 1;", -11, 10);
        fault("part win win;", -11, 9);
        fault("part go 0 without 1 with 1;", -11, 20);
        fault("part;;", -11, 5);
        fault("part take win;", -11, 10);
        fault("win;", -11, 0);
        Doc.term(1, "2 a NUMBER of three figures or more, or out of its bounds (at its first)");
        fault("part take 001;", -12, 10);
        fault("part take 0000000000000000000001;", -12, 10);
        fault("part hurt 4294967297;", -12, 10);
        fault("part take   8;", -12, 12);
        Doc.term(1, "3 'health' told already, a 25th PART (at the clause's first letter), a fifth EFFECT, "
            + "a seventh CHOICE (at its first letter)");
        fault("health 5;  health", -13, 11);
        fault("part;".repeat(24) + "  part", -13, 122);
        fault("part " + FOUR + "  take", -13, 34);
        fault("part " + FOUR + "  heal 0;", -13, 34);
        fault("part" + " go 0".repeat(6) + "  go", -13, 36);
        fault("part" + " go 0".repeat(6) + "  go 99;", -13, 36);
        Doc.term(1, "If there is none of these: 4 a P, a Q that is no PART of the text (at its first figure, the first such)");
        fault("part go 1;", -14, 8);
        fault("part go 0 go 01;", -14, 13);
        fault("part roll 2 1 2;", -14, 12);
        fault("part roll 2 0 2;", -14, 14);
        fault("part go 5;part go 4;", -14, 8);
        fault("part go 5;part", -11, 14);
        fault("part go 5;part take 8;", -12, 20);
        fault("part go 5;health 5;health 5;", -13, 19);
        sound("part go 1;part go 0;", 2);
        // The last of 138 is the first such.
        String six = "part " + "go0".repeat(6) + ";";
        fault(six.repeat(22) + "part " + "go0".repeat(5) + "go23;", -14, 22 * six.length() + 22);
        sound(six.repeat(23) + "part go22go23;", 24);
    }

    private static void emptyAndLines() {
        Doc.term(1, "An empty text (or one of blanks alone) has no FAULT: no PARTS.");
        sound("", 0);
        sound(" ", 0);
        sound(" ".repeat(600), 0);
        Doc.term(1, "LINES of a PART: 2, one for each EFFECT, 2 for each CHOICE, 2 for a roll.");
        ChoiceBook x = Check.told("part;part " + FOUR + " go 0 go 0 go 0 go 0 go 0 go 0;part " + FOUR + " roll 2 0 0;"
            + "part win;part take 1 die;");
        int[] lines = {2, 18, 8, 2, 3};
        for (int p = 0; p < 5; p++) {
            Doc.due("LINES of " + p, x.part(p, 3), lines[p]);
        }
    }

    private static void newObject() {
        Doc.promise(1, "There are no PARTS.");
        ChoiceBook x = new ChoiceBook();
        Doc.due("PARTS", x.count(0), 0);
        Doc.due("CHOICES", x.count(1), 0);
        Doc.due("STATES", x.count(5), 0);
        Doc.due("PART 0", x.part(0, 0), UNKNOWN);
        Doc.due("begin", x.begin(), NOT);
        Doc.due("the fault", x.fault(), NONE);
        Doc.due("the text", x.count(4), 0);
        Doc.due("the log", x.count(3), 0);
        Doc.due("the seed", x.seed(0), 0);
        Doc.all("no image", NOT, x.goBack(0), x.goBack(1));
    }

    private static void feed() {
        Doc.promise(2, "The n lowest bytes (n 1 .. 8) of a long, the highest of these first, come behind THE TEXT: how many it has.");
        ChoiceBook x = new ChoiceBook();
        // The bytes above the n lowest do not count: a ';' there would be a FAULT.
        Doc.due("1 byte", x.feed(1, 0x3B3B3B3B3B3B3B70L), 1);
        Doc.due("2 bytes", x.feed(2, 0x3B3B3B3B3B3B6172L), 3);
        Doc.due("8 bytes", x.feed(8, 0x742074616B652031L), 11);
        Doc.due("1 byte", x.feed(1, ';'), 12);
        Doc.due("book", x.book(), 1);
        Doc.due("take", x.effect(0, 0, 1), 1);
        Doc.due("the sign's bit", x.feed(8, 0xFF70617274202020L), 8);
        Doc.due("book", x.book(), -11);
        Doc.due("the highest first", x.fault(), 0);
        Doc.promise(2, "OUTSIDE, FULL (600).");
        Doc.all("n too small or too large", OUTSIDE, x.feed(0, 32), x.feed(-1, 32), x.feed(9, 32), x.feed(LOW, 32), x.feed(HIGH, 32));
        for (int i = 1; i <= 74; i++) {
            x.feed(8, 0x2020202020202020L);
        }
        Doc.due("592", x.count(4), 592);
        Doc.due("599", x.feed(7, 0x20202020202020L), 599);
        Doc.all("two do not fit", FULL, x.feed(2, 0x2020L), x.feed(8, 0x2020L));
        Doc.due("none of the two came", x.count(4), 599);
        Doc.due("600", x.feed(1, 32), 600);
        Doc.due("full", x.feed(1, 32), FULL);
        Doc.all("OUTSIDE ahead of FULL", OUTSIDE, x.feed(0, 32), x.feed(9, 32));
        x.book();
        Doc.due("empty again", x.feed(8, 0x2020202020202020L), 8);
    }

    private static void book() {
        Doc.promise(3, "THE TEXT (it is empty then, with a FAULT, too) becomes THE BOOK");
        ChoiceBook x = Check.feed(new ChoiceBook(), "part;");
        Doc.due("book", x.book(), 1);
        Doc.due("empty then", x.count(4), 0);
        Doc.due("nothing is left of it", x.book(), 0);
        Doc.due("a fault", Check.feed(x, "part").book(), -11);
        Doc.due("empty then", x.count(4), 0);
        Doc.due("nothing is left of it", Check.feed(x, ";").book(), -11);
        Doc.promise(3, "one has not begun; NUMBERS as at first, THE LOG is empty; IMAGES, THE SEED stay");
        x = begunAndShuffled();
        Doc.due("another book", Check.feed(x, "part go 1;part go 2;part go 3;part go 0;").book(), 4);
        Doc.all("not begun", NOT, x.now(0), x.choose(0), x.odds(0), x.flips(10), x.fewest());
        for (int p = 0; p < 4; p++) {
            Doc.due("NUMBER of " + p, x.number(p), p + 1);
        }
        Doc.due("the log", x.count(3), 0);
        Doc.due("the seed", x.seed(55), 55);
        Doc.due("the image", x.goBack(0), 1);
        Doc.due("the image", x.now(0), 1);
        Doc.promise(3, "-10 less the number of its FAULT (all else is as it was)");
        String[] faults = {"!", "health 0;", "health 1;health 1;", "health 1;part go 1;"};
        for (int i = 0; i < 4; i++) {
            x = begunAndShuffled();
            int[] numbers = {x.number(0), x.number(1), x.number(2), x.number(3)};
            Doc.due(faults[i], Check.feed(x, faults[i]).book(), -11 - i);
            Doc.due("PARTS", x.count(0), 4);
            Doc.due("CHOICES", x.count(1), 4);
            Doc.due("health", x.count(2), 7);
            Doc.due("the log", x.count(3), 1);
            Doc.due("where one is", x.now(0), 1);
            Doc.due("TURNS", x.now(3), 1);
            for (int p = 0; p < 4; p++) {
                Doc.due("NUMBER of " + p, x.number(p), numbers[p]);
            }
            Doc.due("the seed", x.seed(55), 55);
            Doc.due("the image", x.goBack(0), 1);
        }
    }

    private static ChoiceBook begunAndShuffled() {
        ChoiceBook x = Check.told("health 7;part go 1;part go 2;part go 3;part go 0;");
        x.begin();
        x.choose(0);
        x.log(0);
        Doc.due("shuffled", x.shuffle(2, 20) < 3 ? 1 : 0, 1);
        x.seed(55);
        x.keep(0);
        return x;
    }

    private static void fault() {
        Doc.promise(4, "The place (from 0 on) of the byte that has the FAULT of the latest book(); NONE.");
        ChoiceBook x = new ChoiceBook();
        Doc.due("no book()", x.fault(), NONE);
        Check.feed(x, "!").book();
        Doc.due("the first byte", x.fault(), 0);
        Check.feed(x, "part;");
        Doc.due("of the latest book(), not of the text", x.fault(), 0);
        x.book();
        Doc.due("none", x.fault(), NONE);
        Check.feed(x, "part go 7;").book();
        Doc.due("the second last", x.fault(), 8);
        x.book();
        Doc.due("an empty text", x.fault(), NONE);
    }

    private static void part() {
        Doc.promise(5, "what = 0 its end (0 CHOICES or none, 1 win, 2 die, 3 roll)");
        ChoiceBook x = Check.told("part;part go 0;part win;part die;part roll 2 5 0;part " + FOUR + " roll 6 4 3;");
        int[] ends = {0, 0, 1, 2, 3, 3};
        for (int p = 0; p < 6; p++) {
            Doc.due("end of " + p, x.part(p, 0), ends[p]);
        }
        Doc.promise(5, "4 to 6 of a roll N, P, Q (NONE)");
        int[][] rolls = {{2, 5, 0}, {6, 4, 3}};
        for (int what = 4; what <= 6; what++) {
            Doc.all("of no roll", NONE, x.part(0, what), x.part(1, what), x.part(2, what), x.part(3, what));
            Doc.due("of a roll", x.part(4, what), rolls[0][what - 4]);
            Doc.due("of a roll", x.part(5, what), rolls[1][what - 4]);
        }
        Doc.due("no CHOICES at a roll", x.part(5, 2), 0);
        Doc.promise(5, "UNKNOWN, OUTSIDE.");
        Doc.all("no such PART", UNKNOWN, x.part(-1, 0), x.part(6, 0), x.part(24, 0), x.part(LOW, 6), x.part(HIGH, 6));
        Doc.all("what too small or too large", OUTSIDE, x.part(0, -1), x.part(5, 7), x.part(0, LOW), x.part(0, HIGH));
        Doc.all("UNKNOWN ahead of OUTSIDE", UNKNOWN, x.part(-1, -1), x.part(6, 7));
        ChoiceBook full = Check.told("part;".repeat(24));
        Doc.due("the last of 24", full.part(23, 3), 2);
        Doc.due("a 25th", full.part(24, 3), UNKNOWN);
    }

    private static void effect() {
        Doc.promise(6, "what = 0 its kind (0 take, 1 drop, 2 hurt, 3 heal), 1 I or N.");
        ChoiceBook x = Check.told("part " + FOUR + ";part take 7;part;");
        int[] values = {0, 7, 1, 9};
        for (int i = 0; i < 4; i++) {
            Doc.due("kind " + i, x.effect(0, i, 0), i);
            Doc.due("value " + i, x.effect(0, i, 1), values[i]);
        }
        ChoiceBook last = Check.told("part;".repeat(23) + "part " + FOUR + ";");
        Doc.due("the last of 24", last.effect(23, 3, 0), 3);
        Doc.due("the last of 24", last.effect(23, 3, 1), 9);
        Doc.promise(6, "UNKNOWN, OUTSIDE.");
        Doc.all("a fifth, a 25th", UNKNOWN, last.effect(23, 4, 0), last.effect(24, 0, 0));
        Doc.all("no such EFFECT", UNKNOWN, x.effect(0, -1, 0), x.effect(0, 4, 0), x.effect(1, 1, 0), x.effect(2, 0, 0),
            x.effect(0, LOW, 0), x.effect(0, HIGH, 0));
        Doc.all("less than 4, more than it has", UNKNOWN, x.effect(1, 2, 0), x.effect(1, 3, 0), x.effect(2, 1, 0), x.effect(2, 3, 0));
        Doc.all("no such PART", UNKNOWN, x.effect(-1, 0, 0), x.effect(3, 0, 0), x.effect(LOW, 0, 0), x.effect(HIGH, 0, 0));
        Doc.all("what too small or too large", OUTSIDE, x.effect(0, 0, -1), x.effect(0, 3, 2), x.effect(1, 0, LOW), x.effect(1, 0, HIGH));
        Doc.all("UNKNOWN ahead of OUTSIDE", UNKNOWN, x.effect(0, 4, 2), x.effect(3, 0, -1));
        x.book();
        Doc.due("no PARTS", x.effect(0, 0, 0), UNKNOWN);
    }

    private static void choice() {
        Doc.promise(7, "what = 0 P, 1 'with' (NONE), 2 'without' (NONE).");
        ChoiceBook x = Check.told("part go 1 go 0 with 0 go 1 without 7 go 1 with 7 without 0;part roll 2 0 1;part win;");
        int[][] rows = {{1, NONE, NONE}, {0, 0, NONE}, {1, NONE, 7}, {1, 7, 0}};
        for (int i = 0; i < 4; i++) {
            for (int what = 0; what < 3; what++) {
                Doc.due("choice(0, " + i + ", " + what + ")", x.choice(0, i, what), rows[i][what]);
            }
        }
        ChoiceBook last = Check.told("part;".repeat(23) + "part go 0 go 1 go 2 go 3 go 4 go 23 with 7 without 6;");
        int[] lastRow = {23, 7, 6};
        for (int what = 0; what < 3; what++) {
            Doc.due("the last of 24", last.choice(23, 5, what), lastRow[what]);
        }
        Doc.promise(7, "UNKNOWN, OUTSIDE.");
        Doc.all("a seventh, a 25th", UNKNOWN, last.choice(23, 6, 0), last.choice(24, 0, 0));
        Doc.all("no such CHOICE", UNKNOWN, x.choice(0, -1, 0), x.choice(0, 4, 0), x.choice(0, LOW, 0), x.choice(0, HIGH, 0));
        Doc.all("less than 6, more than it has", UNKNOWN, x.choice(0, 5, 0), x.choice(1, 1, 0), x.choice(2, 5, 0));
        Doc.all("a roll, a win have none", UNKNOWN, x.choice(1, 0, 0), x.choice(2, 0, 0));
        Doc.all("no such PART", UNKNOWN, x.choice(-1, 0, 0), x.choice(3, 0, 0), x.choice(LOW, 0, 0), x.choice(HIGH, 0, 0));
        Doc.all("what too small or too large", OUTSIDE, x.choice(0, 0, -1), x.choice(0, 3, 3), x.choice(0, 0, LOW), x.choice(0, 0, HIGH));
        Doc.all("UNKNOWN ahead of OUTSIDE", UNKNOWN, x.choice(0, 4, 3), x.choice(3, 0, -1));
    }

    private static void link() {
        Doc.promise(8, "A CHOICE comes behind those of a PART (with, without a THING or NONE): how many it has.");
        ChoiceBook x = Check.told("part;part go 0;part win;part die;part roll 2 0 0;");
        int[][] rows = {{0, NONE, NONE}, {4, 0, NONE}, {1, 7, NONE}, {2, NONE, 0}, {3, NONE, 7}, {4, 7, 7}};
        for (int i = 0; i < 6; i++) {
            Doc.due("link", x.link(0, rows[i][0], rows[i][1], rows[i][2]), i + 1);
            for (int what = 0; what < 3; what++) {
                Doc.due("choice(0, " + i + ", " + what + ")", x.choice(0, i, what), rows[i][what]);
            }
        }
        Doc.promise(8, "UNKNOWN, NOT: it ends by win, die or a roll; FULL.");
        Doc.all("no such PART", UNKNOWN, x.link(-1, 0, NONE, NONE), x.link(5, 0, NONE, NONE), x.link(1, -1, NONE, NONE),
            x.link(1, 5, NONE, NONE), x.link(LOW, 0, NONE, NONE), x.link(HIGH, 0, NONE, NONE), x.link(1, LOW, NONE, NONE),
            x.link(1, HIGH, NONE, NONE));
        Doc.all("no such THING", UNKNOWN, x.link(1, 0, -2, NONE), x.link(1, 0, 8, NONE), x.link(1, 0, NONE, -2),
            x.link(1, 0, NONE, 8), x.link(1, 0, LOW, HIGH), x.link(1, 0, HIGH, LOW));
        Doc.all("win, die, a roll", NOT, x.link(2, 0, NONE, NONE), x.link(3, 0, NONE, NONE), x.link(4, 0, NONE, NONE));
        Doc.all("UNKNOWN ahead of NOT", UNKNOWN, x.link(2, 5, NONE, NONE), x.link(3, 0, 8, NONE), x.link(4, 0, NONE, 8));
        Doc.due("a seventh", x.link(0, 0, NONE, NONE), FULL);
        Doc.all("UNKNOWN ahead of FULL", UNKNOWN, x.link(0, 5, NONE, NONE), x.link(0, 0, 8, NONE), x.link(0, 0, NONE, -2));
        Doc.due("as many as before", x.count(1), 7);
        x.unlink(0, 0);
        Doc.due("room again", x.link(0, 0, NONE, NONE), 6);
    }

    private static void unlink() {
        Doc.promise(9, "A CHOICE is struck out (later ones have one number less): how many are left.");
        ChoiceBook x = Check.told("part go 0 go 1 go 2 with 2 without 3 go 3 go 4 go 5 with 1 without 6;part;part;part;part;part win;");
        Doc.due("one within", x.unlink(0, 1), 5);
        int[] to = {0, 2, 3, 4, 5};
        for (int i = 0; i < 5; i++) {
            Doc.due("CHOICE " + i, x.choice(0, i, 0), to[i]);
        }
        Doc.due("its with", x.choice(0, 1, 1), 2);
        Doc.due("its without", x.choice(0, 1, 2), 3);
        Doc.due("the last's with", x.choice(0, 4, 1), 1);
        Doc.due("the last's without", x.choice(0, 4, 2), 6);
        Doc.due("no sixth", x.choice(0, 5, 0), UNKNOWN);
        Doc.due("the last", x.unlink(0, 4), 4);
        Doc.due("the first", x.unlink(0, 0), 3);
        Doc.due("the first then", x.choice(0, 0, 0), 2);
        for (int left = 2; left >= 0; left--) {
            Doc.due("down to none", x.unlink(0, 0), left);
        }
        ChoiceBook last = Check.told("part;".repeat(23) + "part go 0 go 1 go 2 go 3 go 4 go 5;");
        for (int left = 5; left >= 0; left--) {
            Doc.due("the last of 24", last.unlink(23, 0), left);
            Doc.due("the first then", last.choice(23, 0, 0), left == 0 ? UNKNOWN : 6 - left);
        }
        Doc.promise(9, "UNKNOWN.");
        Doc.all("none left", UNKNOWN, x.unlink(0, 0), x.unlink(0, -1));
        x.link(0, 1, NONE, NONE);
        Doc.all("no such CHOICE", UNKNOWN, x.unlink(0, 1), x.unlink(0, -1), x.unlink(0, LOW), x.unlink(0, HIGH), x.unlink(5, 0));
        Doc.all("less than 6, more than it has", UNKNOWN, x.unlink(0, 2), x.unlink(0, 5), x.unlink(5, 1));
        Doc.all("no such PART", UNKNOWN, x.unlink(-1, 0), x.unlink(6, 0), x.unlink(LOW, 0), x.unlink(HIGH, 0));
        Doc.due("one still", x.count(1), 1);
    }

    private static void count() {
        Doc.promise(10, "5 STATES that are COME TO (LOST ones not).");
        Doc.due("LOST at once", Check.told("part hurt 5;").count(5), 0);
        Doc.due("LOST by die", Check.told("part die;").count(5), 0);
        Doc.due("WON", Check.told("part win;").count(5), 1);
        Doc.due("STUCK", Check.told("part;").count(5), 1);
        // HEALTH 5 to 1 at PART 0, 4 to 1 at PART 1: a wound that leaves 0 is none.
        Doc.due("by HEALTH", Check.told("part go 1;part hurt 1 go 0;").count(5), 9);
        Doc.due("by THINGS and HEALTH", Check.told("part go 1 without 0;part take 0 hurt 1 go 0;").count(5), 3);
        Doc.due("healing ends at 9", Check.told("part heal 1 go 0;").count(5), 4);
        Doc.due("a PART that nobody comes to", Check.told("part;part;").count(5), 1);
        String all = "health 9;part take 0 take 1 take 2 take 3 go 1;part take 4 take 5 take 6 take 7 go 1;";
        Doc.due("the last PART, all THINGS, HEALTH 9", Check.told(all).count(5), 2);
        ChoiceBook least = Check.told("health 1;part go 0;");
        Doc.due("PART 0, no THINGS, HEALTH 1", least.count(5), 1);
        least.unlink(0, 0);
        Doc.due("PART 0, no THINGS, HEALTH 1, asked again", least.count(5), 1);
        Doc.promise(10, "OUTSIDE.");
        ChoiceBook x = new ChoiceBook();
        Doc.all("what too small or too large", OUTSIDE, x.count(-1), x.count(6), x.count(LOW), x.count(HIGH));
        for (int what = 0; what < 6; what++) {
            Doc.due("of nothing", x.count(what), what == 2 ? 5 : 0);
        }
        ChoiceBook most = Check.told(("part" + "go0".repeat(6).replaceFirst("go", " go") + ";").repeat(24));
        Doc.due("PARTS", most.count(0), 24);
        Doc.due("CHOICES", most.count(1), 144);
        Doc.due("a shorter book", Check.feed(most, "part go 0;part;").book(), 2);
        Doc.due("CHOICES of it alone", most.count(1), 1);
        Doc.due("no PARTS", most.book(), 0);
        Doc.due("no CHOICES", most.count(1), 0);
    }
}
