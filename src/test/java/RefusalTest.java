import java.util.ArrayList;
import java.util.List;
import java.util.function.ToIntFunction;

/** What holds for all calls: the boundary cases' sentences that stand ahead of term 1. */
public final class RefusalTest {
    private static final int NONE = Doc.NONE, UNKNOWN = Doc.UNKNOWN, OUTSIDE = Doc.OUTSIDE, NOT = Doc.NOT, FULL = Doc.FULL;
    private static final int LOW = Doc.LOW, HIGH = Doc.HIGH;
    private static final String TALE = "health 4;part go 1 go 2 with 0 go 3 go 5;part take 0 go 0 go 4;part win;"
        + "part roll 4 1 0;part hurt 4 go 0;part go 0 go 0 go 0 go 0 go 0 go 1;part die;";

    private interface Call extends ToIntFunction<ChoiceBook> {
    }

    public static void main(String[] args) {
        numbersOfRefusals();
        order();
        changesNothing();
        mostCalls();
        Check.end();
    }

    private static void numbersOfRefusals() {
        Doc.term(0, "They are far below all that is counted: -1000001 and on.");
        Doc.due("UNKNOWN", ChoiceBook.UNKNOWN, -1000001);
        Doc.due("OUTSIDE", ChoiceBook.OUTSIDE, -1000002);
        Doc.due("NOT", ChoiceBook.NOT, -1000003);
        Doc.due("FULL", ChoiceBook.FULL, -1000004);
        Doc.term(0, "NONE is -1.");
        Doc.due("NONE", ChoiceBook.NONE, -1);
        Doc.term(0, "A SET is a whole number, bit k for k.");
        Doc.due("the 24th PART", Check.told("part go 23;" + "part;".repeat(23)).parts(0), 1 + (1 << 23));
        Doc.due("THING 7", Check.told("part take 7;").things(0), 128);
    }

    private static void order() {
        Doc.term(0, "REFUSALS, of several the first in this order: UNKNOWN (a PART, CHOICE, EFFECT, THING, IMAGE that there is not), "
            + "OUTSIDE (another number out of its bounds), NOT (not now, as told), FULL.");
        ChoiceBook none = new ChoiceBook();
        ChoiceBook x = Check.told(TALE);
        Doc.all("UNKNOWN ahead of OUTSIDE", UNKNOWN, x.part(7, 7), x.effect(7, 0, 2), x.effect(0, 0, 2), x.choice(0, 4, 3),
            x.page(7, 9), x.without(8, 61), none.part(0, 7), none.page(0, 61));
        Doc.all("UNKNOWN ahead of NOT", UNKNOWN, x.link(2, 7, NONE, NONE), x.link(3, 0, 8, NONE), x.goBack(2), x.goBack(-1),
            none.without(8, 0), none.without(-1, 61));
        Doc.all("OUTSIDE ahead of NOT", OUTSIDE, x.roll(7), x.now(6), x.odds(61), x.advice(0), x.flips(9), none.blind(0),
            none.without(0, 61));
        Doc.all("NOT by itself", NOT, x.link(2, 0, NONE, NONE), x.goBack(0), x.roll(6), x.now(5), x.odds(60), x.advice(1),
            x.flips(10), none.blind(1), none.without(0, 60));
        Check.feed(x, " ".repeat(600));
        for (int i = 0; i < 60; i++) {
            x.log(0);
        }
        Doc.all("FULL by itself", FULL, x.feed(1, ' '), x.log(0), x.link(5, 0, NONE, NONE));
        Doc.due("OUTSIDE ahead of FULL", x.feed(9, ' '), OUTSIDE);
        Doc.all("UNKNOWN ahead of FULL", UNKNOWN, x.log(7), x.link(5, 7, NONE, NONE), x.link(5, 0, NONE, 8));
    }

    private static void changesNothing() {
        Doc.term(0, "What is refused changes nothing.");
        refusals("a new object", x -> { });
        refusals("a book of no PARTS", x -> Check.feed(x, "health 2;").book());
        told("told", x -> { });
        told("begun", ChoiceBook::begin);
        told("at a roll", x -> go(x, 2));
        told("with a THING", x -> go(x, 0));
        told("WON", x -> go(x, 0, 0, 1));
        told("LOST with CHOICES", x -> go(x, 0, 1));
        told("at six CHOICES", x -> go(x, 3));
        told("STUCK", x -> {
            x.begin();
            for (int i = 0; i < 4; i++) {
                x.unlink(0, 0);
            }
        });
        told("full", x -> {
            go(x, 3, 5);
            Check.feed(x, "health 1;part;" + " ".repeat(586));
            for (int i = 0; i < 60; i++) {
                x.log(i % 2);
            }
        });
        told("behind a FAULT", x -> Check.feed(x, "part take 1; part take 8;").book());
    }

    private static void go(ChoiceBook x, int... choices) {
        x.begin();
        for (int k : choices) {
            x.choose(k);
        }
    }

    private interface Setup {
        void to(ChoiceBook x);
    }

    /** A told book with NUMBERS of its own, a LOG, a SEED and an IMAGE, so that a change of each can be seen. */
    private static void told(String where, Setup setup) {
        refusals(where, x -> {
            Check.feed(x, TALE).book();
            x.log(0);
            x.log(1);
            x.shuffle(4, 6);
            x.seed(4711);
            setup.to(x);
            x.keep(1);
        });
    }

    /** Each call of many that is refused is made on one of two like objects, which must answer alike behind it. */
    private static void refusals(String where, Setup setup) {
        List<Call> calls = calls();
        int refused = 0;
        for (int i = 0; i < calls.size(); i++) {
            ChoiceBook tried = new ChoiceBook();
            setup.to(tried);
            if (calls.get(i).applyAsInt(tried) <= UNKNOWN) {
                refused++;
                ChoiceBook twin = new ChoiceBook();
                setup.to(twin);
                alike(where + ", call " + i, answers(tried), answers(twin));
            }
        }
        Doc.due(where + ": many are refused", refused > 60 ? 1 : 0, 1);
    }

    private static void alike(String where, List<Integer> tried, List<Integer> twin) {
        Doc.due(where + ": answers", tried.size(), twin.size());
        for (int i = 0; i < twin.size(); i++) {
            Doc.due(where + ", answer " + i, tried.get(i), twin.get(i));
        }
    }

    private static List<Call> calls() {
        List<Call> calls = new ArrayList<>();
        for (int bad : new int[] {LOW, -2, -1, 0, 1, 5, 6, 7, 8, 9, 24, 25, 61, 100, HIGH}) {
            calls.addAll(List.of(x -> x.feed(bad, ';'), x -> x.part(bad, bad), x -> x.effect(bad, 0, 0),
                x -> x.effect(0, bad, 0), x -> x.effect(0, 0, bad), x -> x.choice(bad, 0, 0), x -> x.choice(0, bad, 0),
                x -> x.choice(0, 0, bad), x -> x.count(bad)));
            calls.addAll(List.of(x -> x.link(bad, 0, NONE, NONE), x -> x.link(0, bad, NONE, NONE),
                x -> x.link(0, 0, bad, NONE), x -> x.link(0, 0, NONE, bad), x -> x.unlink(bad, 0), x -> x.unlink(0, bad)));
            calls.addAll(List.of(x -> x.choose(bad), x -> x.roll(bad), x -> x.now(bad), x -> x.odds(bad),
                x -> x.advice(bad), x -> x.parts(bad), x -> x.things(bad), x -> x.without(bad, 0), x -> x.without(0, bad)));
            calls.addAll(List.of(x -> x.log(bad), x -> x.number(bad), x -> x.near(bad), x -> x.shuffle(bad, 1),
                x -> x.shuffle(1, bad), x -> x.page(bad, 10), x -> x.page(0, bad), x -> x.flips(bad), x -> x.seed(bad),
                x -> x.blind(bad)));
            calls.addAll(List.of(x -> x.keep(bad), x -> x.goBack(bad)));
        }
        calls.addAll(List.of(ChoiceBook::begin, ChoiceBook::fewest, ChoiceBook::surely, x -> x.link(5, 0, NONE, NONE),
            x -> x.link(2, 0, NONE, NONE), x -> x.link(6, 0, NONE, NONE), x -> x.link(3, 0, NONE, NONE),
            x -> x.feed(8, 0x7061727420676F20L)));
        return calls;
    }

    /** What can be asked of an object: first without a change, then by DRAWS, by THE TEXT, by an IMAGE. */
    private static List<Integer> answers(ChoiceBook x) {
        List<Integer> row = new ArrayList<>();
        standing(x, row);
        row.addAll(List.of(x.roll(NONE), x.blind(3), x.shuffle(24, 2), x.seed(1)));
        row.addAll(List.of(x.book(), x.fault(), x.count(0), x.count(2), x.count(3), x.count(4)));
        row.addAll(List.of(x.goBack(0), x.count(0), x.goBack(1)));
        standing(x, row);
        return row;
    }

    private static void standing(ChoiceBook x, List<Integer> row) {
        for (int what = 0; what < 6; what++) {
            row.add(x.count(what));
            row.add(x.now(what));
        }
        for (int p = 0; p < 8; p++) {
            row.addAll(List.of(x.part(p, 1), x.part(p, 2), x.number(p), x.choice(p, 0, 0), x.choice(p, 5, 0), x.effect(p, 0, 1)));
        }
        for (int what = 0; what < 4; what++) {
            row.add(x.parts(what));
        }
        row.addAll(List.of(x.things(0), x.things(1), x.odds(7), x.advice(7), x.fewest(), x.surely(), x.without(0, 9)));
        row.addAll(List.of(x.judge(), x.fault(), x.near(4), x.flips(10), x.page(3, 10)));
        int seed = x.seed(0);
        x.seed(seed);
        row.add(seed);
    }

    private static void mostCalls() {
        Doc.term(0, "An object is used for at most 512 calls after it has been made");
        ChoiceBook x = new ChoiceBook();
        // 'part go0go1;part go1;  '
        x.feed(8, 0x7061727420676F30L);
        x.feed(7, 0x676F313B706172L);
        x.feed(8, 0x7420676F313B2020L);
        x.book();
        x.begin();
        x.choose(1);
        for (int call = 7; call <= 510; call++) {
            Doc.due("call " + call, x.choose(0), 0);
        }
        Doc.due("call 511", x.now(3), 505);
        Doc.due("call 512", x.now(0), 1);
        // Two PARTS of 10 and 12 LINES: each TURN but one to itself turns a PAGE.
        ChoiceBook y = Check.told("part go1go1go1go1;part go0go0go0go0go0;");
        y.begin();
        for (int i = 0; i < 500; i++) {
            y.choose(i % 4);
        }
        Doc.due("500 FLIPS", y.flips(10), 500);
        Doc.due("500 TURNS", y.now(3), 500);
    }
}
