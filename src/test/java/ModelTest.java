import java.util.List;
import java.util.Random;

/** Random runs of calls, each answer held against the plain model of the document. */
public final class ModelTest {
    private static final String[] WORDS = {"health", "part", "take", "drop", "hurt", "heal", "win", "die", "roll",
        "go", "with", "without", ";", "0", "1", "2", "7", "9", "23", "24", "123", "x", "goo", "!", " ", "\u00e9"};

    private final Random random;
    private final ChoiceBook x = new ChoiceBook();
    private final Model m = new Model();
    private final StringBuilder trace = new StringBuilder();

    private ModelTest(long seed) {
        // Seeds side by side give first draws side by side, unless they are spread.
        random = new Random(seed * 0x9E3779B97F4A7C15L);
    }

    public static void main(String[] args) {
        int runs = args.length > 0 ? Integer.parseInt(args[0]) : 1500;
        long first = args.length > 1 ? Long.parseLong(args[1]) : 1;
        for (int i = 0; i < runs; i++) {
            new ModelTest(first + i).run();
        }
        Check.end();
    }

    private int below(int n) {
        return random.nextInt(n);
    }

    private boolean oneIn(int n) {
        return below(n) == 0;
    }

    private void run() {
        int calls = 0;
        int size = oneIn(4) ? 24 : 1 + below(9);
        while (calls < 420) {
            calls += tell(size);
            int some = 5 + below(150);
            for (int i = 0; i < some; i++) {
                call(size);
            }
            calls += some;
        }
    }

    private void same(String call, long got, long want) {
        trace.append(call).append(" = ").append(got).append('\n');
        if (got != want) {
            System.out.println(trace);
        }
        Check.due(call, got, want);
    }

    private int tell(int size) {
        String text = textOf(size);
        if (text.length() > 600) {
            text = text.substring(0, 600);
        }
        trace.append("text: ").append(text).append('\n');
        for (int from = 0; from < text.length(); ) {
            int n = Math.min(1 + below(8), text.length() - from);
            if (text.length() > 200) {
                n = Math.min(8, text.length() - from);
            }
            long bytes = random.nextLong();
            for (int i = 0; i < n; i++) {
                bytes = bytes << 8 | text.charAt(from + i);
            }
            same("feed(" + n + ", " + bytes + ")", x.feed(n, bytes), m.feed(n, bytes));
            from += n;
        }
        same("count(4)", x.count(4), m.count(4));
        same("book()", x.book(), m.book());
        same("fault()", x.fault(), m.fault());
        return text.length() / 4 + 3;
    }

    private String textOf(int size) {
        if (oneIn(8)) {
            StringBuilder soup = new StringBuilder();
            int n = below(12);
            for (int i = 0; i < n; i++) {
                soup.append(WORDS[below(WORDS.length)]).append(oneIn(3) ? "" : " ");
            }
            return soup.toString();
        }
        String valid = oneIn(2) || size < 4 ? validText(size) : questText(Math.min(size, 14));
        if (!oneIn(4)) {
            return valid;
        }
        StringBuilder spoilt = new StringBuilder(valid);
        int at = below(spoilt.length() + 1);
        switch (below(4)) {
            case 0 -> spoilt.insert(at, WORDS[below(WORDS.length)]);
            case 1 -> spoilt.setLength(at);
            case 2 -> {
                if (at < spoilt.length()) {
                    spoilt.deleteCharAt(at);
                }
            }
            default -> {
                if (at < spoilt.length()) {
                    spoilt.setCharAt(at, (char) (32 + below(224)));
                }
            }
        }
        return spoilt.toString();
    }

    private String gap() {
        return oneIn(6) ? "  " : " ";
    }

    /** Few bytes a PART, so that books of 24 PARTS fit. */
    private String validText(int size) {
        StringBuilder t = new StringBuilder(oneIn(5) ? gap() : "");
        int parts = size == 24 ? 18 + below(7) : size;
        int healthAt = oneIn(2) ? below(parts + 1) : -1;
        int effectsOneIn = 1 + below(3);
        for (int p = 0; p < parts; p++) {
            if (p == healthAt) {
                t.append("health").append(oneIn(2) ? "" : gap()).append(1 + below(9)).append(";");
            }
            int room = (600 - t.length()) / (parts - p) - 6;
            t.append("part");
            StringBuilder body = new StringBuilder();
            while (oneIn(effectsOneIn) && body.length() < room - 20 && effectsOf(body) < 4) {
                body.append(effectText());
            }
            body.append(endText(parts, room - body.length()));
            t.append(body.length() <= room || parts < 10 ? body : "");
            t.append(oneIn(5) ? gap() : "").append(';').append(oneIn(6) ? gap() : "");
        }
        return t.toString();
    }

    /** A book with few dead ends, whose win (the last PART) may want a THING. */
    private String questText(int parts) {
        StringBuilder t = new StringBuilder(oneIn(2) ? "health " + (2 + below(8)) + ";" : "");
        for (int p = 0; p < parts - 1; p++) {
            t.append("part");
            if (p > 0 && oneIn(2)) {
                t.append(oneIn(3) ? " hurt 1" : oneIn(6) ? " heal 1" : oneIn(5) ? " drop 1" : " take " + below(3));
            }
            if (p > 0 && oneIn(4)) {
                t.append(" roll ").append(2 + below(5)).append(' ').append(below(parts)).append(' ').append(below(parts));
            } else {
                for (int i = 1 + below(3); i > 0; i--) {
                    int to = below(parts - 1);
                    t.append(" go ").append(to).append(oneIn(6) ? " without " + below(3) : "");
                }
                if (oneIn(3)) {
                    t.append(" go ").append(parts - 1).append(oneIn(8) ? "" : " with " + below(3));
                }
            }
            t.append(';');
        }
        return t.append("part win;").toString();
    }

    private static int effectsOf(StringBuilder body) {
        int n = 0;
        for (String word : new String[] {"take", "drop", "hurt", "heal"}) {
            for (int at = body.indexOf(word); at >= 0; at = body.indexOf(word, at + 1)) {
                n++;
            }
        }
        return n;
    }

    private String effectText() {
        return switch (below(6)) {
            case 0, 1, 2 -> " take" + gap() + below(3);
            case 3 -> " drop " + (oneIn(3) ? "0" : "") + below(3);
            case 4 -> " hurt" + (1 + below(3));
            default -> " heal " + (1 + below(oneIn(4) ? 9 : 2));
        };
    }

    private String endText(int parts, int room) {
        switch (below(9)) {
            case 0:
                return oneIn(3) ? "" : " win";
            case 1:
                return oneIn(2) ? " die" : "";
            case 2:
            case 3:
                return " roll " + (2 + below(5)) + gap() + below(parts) + " " + below(parts);
            case 4:
                if (oneIn(3)) {
                    return "";
                }
                break;
            default:
                break;
        }
        StringBuilder t = new StringBuilder();
        int n = 1 + below(oneIn(4) ? 6 : 3);
        for (int i = 0; i < n && (i == 0 || t.length() < room - 22); i++) {
            t.append(oneIn(2) && i > 0 ? "" : gap()).append("go ").append(below(parts));
            t.append(oneIn(4) ? "with" + gap() + below(3) : "");
            t.append(oneIn(5) ? gap() + "without " + below(3) : "");
        }
        return t.toString();
    }

    private int near(int low, int high) {
        return oneIn(12) ? low - 1 - below(2) : oneIn(12) ? high + 1 + below(2) : low + below(high - low + 1);
    }

    private int somePart(int size) {
        return oneIn(15) ? near(-1, 24) : below(size);
    }

    private void call(int size) {
        int a = somePart(size);
        int b = somePart(size);
        switch (below(60)) {
            case 0 -> {
                int what = near(0, 6);
                same("part(" + a + ", " + what + ")", x.part(a, what), m.part(a, what));
            }
            case 1 -> {
                int i = near(0, 3), what = near(0, 1);
                same("effect(" + a + ", " + i + ", " + what + ")", x.effect(a, i, what), m.effect(a, i, what));
            }
            case 2 -> {
                int i = near(0, 3), what = near(0, 2);
                same("choice(" + a + ", " + i + ", " + what + ")", x.choice(a, i, what), m.choice(a, i, what));
            }
            case 3, 4 -> {
                int with = oneIn(2) ? -1 : near(-1, 7), without = oneIn(2) ? -1 : near(-1, 7);
                same("link(" + a + ", " + b + ", " + with + ", " + without + ")",
                    x.link(a, b, with, without), m.link(a, b, with, without));
            }
            case 5, 6 -> {
                int i = near(0, 3);
                same("unlink(" + a + ", " + i + ")", x.unlink(a, i), m.unlink(a, i));
            }
            case 7, 8 -> {
                int what = near(0, 5);
                same("count(" + what + ")", x.count(what), m.count(what));
            }
            case 9 -> same("begin()", x.begin(), m.begin());
            default -> readOrAsk(a);
        }
    }

    /** Mostly a step that can be, so that readers come far. */
    private void step() {
        boolean begun = m.is.state != null;
        if (!oneIn(4) && (!begun || m.stands(m.is.state) != 0)) {
            same("begin()", x.begin(), m.begin());
        } else if (oneIn(10) || begun && m.atRoll(m.is.state)) {
            int v = oneIn(2) ? -1 : near(1, 6);
            same("roll(" + v + ")", x.roll(v), m.roll(v));
        } else {
            List<Integer> open = begun ? m.openOf(m.is.state) : List.of();
            int k = open.isEmpty() || oneIn(6) ? near(0, 2) : open.get(below(open.size()));
            same("choose(" + k + ")", x.choose(k), m.choose(k));
        }
    }

    private void readOrAsk(int a) {
        switch (below(34)) {
            case 0, 1, 2, 3, 4, 5, 6, 7, 8, 9, 10, 11, 12, 13 -> step();
            case 14, 15, 16 -> {
                int what = near(0, 5);
                same("now(" + what + ")", x.now(what), m.now(what));
            }
            case 17 -> {
                int t = near(0, oneIn(2) ? 60 : 8);
                same("odds(" + t + ")", x.odds(t), m.odds(t));
            }
            case 18 -> {
                int t = near(1, oneIn(2) ? 60 : 8);
                same("advice(" + t + ")", x.advice(t), m.advice(t));
            }
            case 19 -> same("fewest()", x.fewest(), m.fewest());
            case 20 -> same("surely()", x.surely(), m.surely());
            case 21 -> {
                int what = near(0, 3);
                same("parts(" + what + ")", x.parts(what), m.parts(what));
            }
            case 22 -> {
                int what = near(0, 1);
                same("things(" + what + ")", x.things(what), m.things(what));
            }
            case 23 -> {
                int thing = oneIn(2) ? below(3) : near(0, 7), t = near(0, 60);
                same("without(" + thing + ", " + t + ")", x.without(thing, t), m.without(thing, t));
            }
            default -> logAndNumbers(a);
        }
    }

    private void logAndNumbers(int a) {
        switch (below(20)) {
            case 0, 1, 2 -> {
                same("log(" + a + ")", x.log(a), m.log(a));
                same("judge()", x.judge(), m.judge());
            }
            case 3 -> {
                same("clear()", x.clear(), m.clear());
                same("log(0)", x.log(0), m.log(0));
            }
            case 4 -> same("judge()", x.judge(), m.judge());
            case 5 -> same("number(" + a + ")", x.number(a), m.number(a));
            case 6 -> {
                int d = near(1, 24);
                same("near(" + d + ")", x.near(d), m.near(d));
            }
            case 7 -> {
                int d = near(1, oneIn(2) ? 4 : 24), n = near(1, oneIn(2) ? 99 : 5);
                same("shuffle(" + d + ", " + n + ")", x.shuffle(d, n), m.shuffle(d, n));
            }
            case 8, 9 -> {
                int h = near(10, oneIn(2) ? 60 : 14);
                same("page(" + a + ", " + h + ")", x.page(a, h), m.page(a, h));
            }
            case 10, 11 -> {
                int h = near(10, oneIn(2) ? 60 : 14);
                same("flips(" + h + ")", x.flips(h), m.flips(h));
            }
            case 12 -> {
                int v = oneIn(8) ? -below(5) : oneIn(8) ? Integer.MAX_VALUE : below(Integer.MAX_VALUE);
                same("seed(" + v + ")", x.seed(v), m.seed(v));
            }
            case 13, 14 -> {
                int n = near(1, oneIn(2) ? 99 : 4);
                same("blind(" + n + ")", x.blind(n), m.blind(n));
            }
            case 15, 16 -> {
                int i = near(0, 1);
                same("keep(" + i + ")", x.keep(i), m.keep(i));
            }
            case 17 -> same("fault()", x.fault(), m.fault());
            default -> {
                int i = near(0, 1);
                same("goBack(" + i + ")", x.goBack(i), m.goBack(i));
            }
        }
    }
}
