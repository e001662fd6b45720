import java.util.ArrayDeque;
import java.util.ArrayList;
import java.util.Deque;
import java.util.HashMap;
import java.util.HashSet;
import java.util.List;
import java.util.Map;
import java.util.Set;

/**
 * The document once more, in the plainest way, with lists and sets and no thought of speed:
 * what ChoiceBook answers is held against it.
 */
final class Model {
    static final int NONE = -1, UNKNOWN = -1000001, OUTSIDE = -1000002, NOT = -1000003, FULL = -1000004;

    record Effect(String kind, int value) { }

    record Choice(int to, int with, int without) { }

    record Token(String text, int at) {
        boolean isWord() {
            return !text.isEmpty() && text.charAt(0) >= 'a' && text.charAt(0) <= 'z';
        }

        boolean isNumber() {
            return !text.isEmpty() && text.charAt(0) >= '0' && text.charAt(0) <= '9';
        }
    }

    record State(int part, Set<Integer> things, int health, boolean lost) { }

    static final class Part {
        List<Effect> effects = new ArrayList<>();
        List<Choice> choices = new ArrayList<>();
        String end = "";
        int n = NONE, p = NONE, q = NONE;

        Part copy() {
            Part c = new Part();
            c.effects.addAll(effects);
            c.choices.addAll(choices);
            c.end = end;
            c.n = n;
            c.p = p;
            c.q = q;
            return c;
        }

        int lines() {
            return 2 + effects.size() + 2 * choices.size() + (end.equals("roll") ? 2 : 0);
        }
    }

    static final class Image {
        List<Part> parts = new ArrayList<>();
        int health = 5;
        List<Integer> numbers = new ArrayList<>();
        long seed = 0;
        State state = null;
        List<Integer> read = new ArrayList<>();

        Image copy() {
            Image c = new Image();
            for (Part part : parts) {
                c.parts.add(part.copy());
            }
            c.health = health;
            c.numbers.addAll(numbers);
            c.seed = seed;
            c.state = state;
            c.read.addAll(read);
            return c;
        }
    }

    static final class Fault extends RuntimeException {
        private static final long serialVersionUID = 1L;
        final int kind, at;

        Fault(int kind, int at) {
            this.kind = kind;
            this.at = at;
        }
    }

    StringBuilder text = new StringBuilder();
    int faultAt = NONE;
    Image is = new Image();
    Image[] images = new Image[2];
    List<Integer> logged = new ArrayList<>();

    // ---- the book

    int feed(int n, long bytes) {
        if (n < 1 || n > 8) return OUTSIDE;
        if (text.length() + n > 600) return FULL;
        for (int i = n - 1; i >= 0; i--) text.append((char) (bytes >> 8 * i & 255));
        return text.length();
    }

    int book() {
        String told = text.toString();
        text.setLength(0);
        try {
            Image next = parse(told);
            next.seed = is.seed;
            is = next;
            logged.clear();
            faultAt = NONE;
            return is.parts.size();
        } catch (Fault fault) {
            faultAt = fault.at;
            return -10 - fault.kind;
        }
    }

    int fault() {
        return faultAt;
    }

    private static List<Token> tokens(String told) {
        List<Token> row = new ArrayList<>();
        for (int i = 0; i < told.length(); ) {
            char c = told.charAt(i);
            int j = i + 1;
            if (c >= 'a' && c <= 'z') {
                while (j < told.length() && told.charAt(j) >= 'a' && told.charAt(j) <= 'z') j++;
            } else if (c >= '0' && c <= '9') {
                while (j < told.length() && told.charAt(j) >= '0' && told.charAt(j) <= '9') j++;
            }
            if (c != ' ') row.add(new Token(told.substring(i, j), i));
            i = j;
        }
        row.add(new Token("", told.length()));
        return row;
    }

    private static int figure(Deque<Token> row, int least, int most) {
        Token t = row.peek();
        if (!t.isNumber()) throw new Fault(1, t.at);
        if (t.text.length() > 2) throw new Fault(2, t.at);
        int v = Integer.parseInt(t.text);
        if (v < least || v > most) throw new Fault(2, t.at);
        row.poll();
        return v;
    }

    private static Image parse(String told) {
        Deque<Token> row = new ArrayDeque<>(tokens(told));
        Image image = new Image();
        List<Token> targets = new ArrayList<>();
        boolean healthTold = false;
        while (row.size() > 1) {
            Token first = row.peek();
            if (first.text.equals("health")) {
                if (healthTold) throw new Fault(3, first.at);
                healthTold = true;
                row.poll();
                image.health = figure(row, 1, 9);
            } else if (first.text.equals("part")) {
                if (image.parts.size() == 24) throw new Fault(3, first.at);
                row.poll();
                image.parts.add(partOf(row, targets));
            } else {
                throw new Fault(1, first.at);
            }
            if (!row.peek().text.equals(";")) throw new Fault(1, row.peek().at);
            row.poll();
        }
        for (Token t : targets) {
            if (Integer.parseInt(t.text) >= image.parts.size()) throw new Fault(4, t.at);
        }
        for (int p = 0; p < image.parts.size(); p++) image.numbers.add(p + 1);
        return image;
    }

    private static Part partOf(Deque<Token> row, List<Token> targets) {
        Part part = new Part();
        while (List.of("take", "drop", "hurt", "heal").contains(row.peek().text)) {
            if (part.effects.size() == 4) throw new Fault(3, row.peek().at);
            String kind = row.poll().text;
            boolean thing = kind.equals("take") || kind.equals("drop");
            part.effects.add(new Effect(kind, thing ? figure(row, 0, 7) : figure(row, 1, 9)));
        }
        switch (row.peek().text) {
            case "win", "die" -> part.end = row.poll().text;
            case "roll" -> {
                part.end = row.poll().text;
                part.n = figure(row, 2, 6);
                targets.add(row.peek());
                part.p = figure(row, 0, 23);
                targets.add(row.peek());
                part.q = figure(row, 0, 23);
            }
            default -> {
                while (row.peek().text.equals("go")) {
                    if (part.choices.size() == 6) throw new Fault(3, row.peek().at);
                    row.poll();
                    targets.add(row.peek());
                    int to = figure(row, 0, 23);
                    int with = NONE, without = NONE;
                    if (row.peek().text.equals("with")) {
                        row.poll();
                        with = figure(row, 0, 7);
                    }
                    if (row.peek().text.equals("without")) {
                        row.poll();
                        without = figure(row, 0, 7);
                    }
                    part.choices.add(new Choice(to, with, without));
                }
            }
        }
        return part;
    }

    boolean isPart(int p) {
        return p >= 0 && p < is.parts.size();
    }

    int part(int p, int what) {
        if (!isPart(p)) return UNKNOWN;
        Part part = is.parts.get(p);
        return switch (what) {
            case 0 -> List.of("", "win", "die", "roll").indexOf(part.end);
            case 1 -> part.effects.size();
            case 2 -> part.choices.size();
            case 3 -> part.lines();
            case 4 -> part.n;
            case 5 -> part.p;
            case 6 -> part.q;
            default -> OUTSIDE;
        };
    }

    int effect(int p, int i, int what) {
        if (!isPart(p) || i < 0 || i >= is.parts.get(p).effects.size()) return UNKNOWN;
        Effect e = is.parts.get(p).effects.get(i);
        if (what == 0) return List.of("take", "drop", "hurt", "heal").indexOf(e.kind);
        return what == 1 ? e.value : OUTSIDE;
    }

    int choice(int p, int i, int what) {
        if (!isPart(p) || i < 0 || i >= is.parts.get(p).choices.size()) return UNKNOWN;
        Choice c = is.parts.get(p).choices.get(i);
        return what == 0 ? c.to : what == 1 ? c.with : what == 2 ? c.without : OUTSIDE;
    }

    int link(int p, int to, int with, int without) {
        if (!isPart(p) || !isPart(to) || with < -1 || with > 7 || without < -1 || without > 7) return UNKNOWN;
        Part part = is.parts.get(p);
        if (!part.end.equals("")) return NOT;
        if (part.choices.size() == 6) return FULL;
        part.choices.add(new Choice(to, with, without));
        return part.choices.size();
    }

    int unlink(int p, int i) {
        if (!isPart(p) || i < 0 || i >= is.parts.get(p).choices.size()) return UNKNOWN;
        is.parts.get(p).choices.remove(i);
        return is.parts.get(p).choices.size();
    }

    int count(int what) {
        return switch (what) {
            case 0 -> is.parts.size();
            case 1 -> is.parts.stream().mapToInt(p -> p.choices.size()).sum();
            case 2 -> is.health;
            case 3 -> logged.size();
            case 4 -> text.length();
            case 5 -> (int) comeTo(NONE, NONE).stream().filter(s -> !s.lost).count();
            default -> OUTSIDE;
        };
    }

    // ---- walking

    State arrive(int p, Set<Integer> things, int health, int noThing) {
        Set<Integer> had = new HashSet<>(things);
        int left = health;
        for (Effect e : is.parts.get(p).effects) {
            switch (e.kind) {
                case "take" -> {
                    if (e.value != noThing) had.add(e.value);
                }
                case "drop" -> had.remove(e.value);
                case "hurt" -> left -= e.value;
                default -> left = Math.min(9, left + e.value);
            }
            if (left <= 0) return new State(p, had, 0, true);
        }
        return new State(p, had, left, is.parts.get(p).end.equals("die"));
    }

    State beginning(int noThing) {
        return arrive(0, Set.of(), is.health, noThing);
    }

    boolean open(State s, Choice c) {
        return (c.with == NONE || s.things.contains(c.with)) && (c.without == NONE || !s.things.contains(c.without));
    }

    boolean won(State s) {
        return !s.lost && is.parts.get(s.part).end.equals("win");
    }

    boolean atRoll(State s) {
        return !s.lost && is.parts.get(s.part).end.equals("roll");
    }

    List<Integer> openOf(State s) {
        List<Integer> row = new ArrayList<>();
        List<Choice> choices = is.parts.get(s.part).choices;
        for (int k = 0; k < choices.size() && !s.lost; k++) {
            if (open(s, choices.get(k))) row.add(k);
        }
        return row;
    }

    int stands(State s) {
        if (s.lost) return 2;
        if (won(s)) return 1;
        return atRoll(s) || !openOf(s).isEmpty() ? 0 : 3;
    }

    /** The PARTS to which one can go, CHOICE by CHOICE, or P and Q. */
    List<Integer> targets(State s) {
        List<Integer> row = new ArrayList<>();
        if (s.lost || won(s)) return row;
        Part part = is.parts.get(s.part);
        if (atRoll(s)) return List.of(part.p, part.q);
        for (int k : openOf(s)) row.add(part.choices.get(k).to);
        return row;
    }

    State go(State s, int to, int noThing) {
        return arrive(to, s.things, s.health, noThing);
    }

    Set<State> comeTo(int noThing, int noPart) {
        if (is.parts.isEmpty() || noPart == 0) return Set.of();
        return from(beginning(noThing), noThing, noPart);
    }

    Set<State> from(State first, int noThing, int noPart) {
        Set<State> seen = new HashSet<>();
        Deque<State> todo = new ArrayDeque<>();
        todo.add(first);
        seen.add(first);
        while (!todo.isEmpty()) {
            State s = todo.poll();
            for (int to : targets(s)) {
                if (to != noPart) {
                    State next = go(s, to, noThing);
                    if (seen.add(next)) todo.add(next);
                }
            }
        }
        return seen;
    }

    // ---- read

    int begin() {
        if (is.parts.isEmpty()) return NOT;
        is.state = beginning(NONE);
        is.read.clear();
        is.read.add(0);
        return stands(is.state);
    }

    int turn(int to) {
        is.state = go(is.state, to, NONE);
        is.read.add(to);
        return stands(is.state);
    }

    int choose(int k) {
        if (is.state == null) return NOT;
        List<Choice> choices = is.parts.get(is.state.part).choices;
        if (k < 0 || k >= choices.size()) return UNKNOWN;
        if (!openOf(is.state).contains(k)) return NOT;
        return turn(choices.get(k).to);
    }

    int draw(int n) {
        is.seed = (is.seed * 1103515245L + 12345L) % 2147483648L;
        return (int) (is.seed / 65536 % n);
    }

    int roll(int v) {
        if (v != -1 && (v < 1 || v > 6)) return OUTSIDE;
        if (is.state == null || !atRoll(is.state)) return NOT;
        Part part = is.parts.get(is.state.part);
        int face = v == -1 ? draw(6) + 1 : v;
        return turn(face >= part.n ? part.p : part.q);
    }

    int now(int what) {
        if (what < 0 || what > 5) return OUTSIDE;
        if (is.state == null) return NOT;
        return switch (what) {
            case 0 -> is.state.part;
            case 1 -> is.state.things.stream().mapToInt(i -> 1 << i).sum();
            case 2 -> is.state.health;
            case 3 -> is.read.size() - 1;
            case 4 -> stands(is.state);
            default -> openOf(is.state).stream().mapToInt(i -> 1 << i).sum();
        };
    }

    // ---- odds

    record Key(State state, int t) { }

    int oddsOf(State s, int t, int noThing, Map<Key, Integer> known) {
        if (won(s)) return 1000000;
        if (s.lost || t == 0 || stands(s) == 3) return 0;
        Key key = new Key(s, t);
        Integer found = known.get(key);
        if (found != null) return found;
        int value = 0;
        if (atRoll(s)) {
            Part part = is.parts.get(s.part);
            int sum = 0;
            for (int face = 1; face <= 6; face++) {
                sum += oddsOf(go(s, face >= part.n ? part.p : part.q, noThing), t - 1, noThing, known);
            }
            value = sum / 6;
        } else {
            for (int to : targets(s)) {
                value = Math.max(value, oddsOf(go(s, to, noThing), t - 1, noThing, known));
            }
        }
        known.put(key, value);
        return value;
    }

    int odds(int t) {
        if (t < 0 || t > 60) return OUTSIDE;
        if (is.state == null) return NOT;
        return oddsOf(is.state, t, NONE, new HashMap<>());
    }

    int advice(int t) {
        if (t < 1 || t > 60) return OUTSIDE;
        if (is.state == null) return NOT;
        Map<Key, Integer> known = new HashMap<>();
        int best = NONE, most = -1;
        for (int k : openOf(is.state)) {
            int to = is.parts.get(is.state.part).choices.get(k).to;
            int value = oddsOf(go(is.state, to, NONE), t - 1, NONE, known);
            if (value > most) {
                most = value;
                best = k;
            }
        }
        return best;
    }

    int fewest() {
        if (is.state == null) return NOT;
        Set<State> seen = new HashSet<>(Set.of(is.state));
        Set<State> edge = Set.of(is.state);
        for (int t = 0; !edge.isEmpty(); t++) {
            Set<State> next = new HashSet<>();
            for (State s : edge) {
                if (won(s)) return t;
                for (int to : targets(s)) {
                    State after = go(s, to, NONE);
                    if (seen.add(after)) next.add(after);
                }
            }
            edge = next;
        }
        return NONE;
    }

    int surely() {
        if (is.state == null) return NOT;
        Set<State> all = from(is.state, NONE, NONE);
        Set<State> sure = new HashSet<>();
        for (State s : all) {
            if (won(s)) sure.add(s);
        }
        for (int t = 0; t <= 60; t++) {
            if (sure.contains(is.state)) return t;
            Set<State> next = new HashSet<>(sure);
            for (State s : all) {
                List<Integer> ways = targets(s);
                boolean each = atRoll(s);
                boolean some = false, every = true;
                for (int to : ways) {
                    boolean in = sure.contains(go(s, to, NONE));
                    some |= in;
                    every &= in;
                }
                if (each ? every : some) next.add(s);
            }
            sure = next;
        }
        return NONE;
    }

    // ---- what there may be

    boolean winnable(int noThing, int noPart) {
        return comeTo(noThing, noPart).stream().anyMatch(this::won);
    }

    int parts(int what) {
        if (what < 0 || what > 3) return OUTSIDE;
        int set = 0;
        Set<State> all = comeTo(NONE, NONE);
        for (int p = 0; p < is.parts.size(); p++) {
            boolean in = false;
            if (what == 1) {
                in = winnable(NONE, NONE) && !winnable(NONE, p);
            } else {
                for (State s : all) {
                    if (s.part != p) continue;
                    in |= what == 0
                        || what == 2 && !s.lost && from(s, NONE, NONE).stream().noneMatch(this::won)
                        || what == 3 && stands(s) == 3;
                }
            }
            if (in) set |= 1 << p;
        }
        return set;
    }

    int things(int what) {
        if (what < 0 || what > 1) return OUTSIDE;
        int set = 0;
        for (int i = 0; i < 8; i++) {
            int thing = i;
            boolean in = what == 0
                ? comeTo(NONE, NONE).stream().anyMatch(s -> !s.lost && s.things.contains(thing))
                : winnable(NONE, NONE) && !winnable(i, NONE);
            if (in) set |= 1 << i;
        }
        return set;
    }

    int without(int thing, int t) {
        if (thing < 0 || thing > 7) return UNKNOWN;
        if (t < 0 || t > 60) return OUTSIDE;
        if (is.parts.isEmpty()) return NOT;
        return oddsOf(beginning(thing), t, thing, new HashMap<>());
    }

    int log(int p) {
        if (!isPart(p)) return UNKNOWN;
        if (logged.size() == 60) return FULL;
        logged.add(p);
        return logged.size();
    }

    int clear() {
        int had = logged.size();
        logged.clear();
        return had;
    }

    int judge() {
        State s = null;
        for (int i = 0; i < logged.size(); i++) {
            int p = logged.get(i);
            if (!isPart(p)) return i;
            if (i == 0) {
                if (p != 0) return 0;
                s = beginning(NONE);
            } else {
                if (!targets(s).contains(p)) return i;
                s = go(s, p, NONE);
            }
        }
        return NONE;
    }

    // ---- numbers, pages

    int number(int p) {
        return isPart(p) ? is.numbers.get(p) : UNKNOWN;
    }

    boolean leads(int a, int b) {
        Part part = is.parts.get(a);
        return part.end.equals("roll") && (part.p == b || part.q == b)
            || part.choices.stream().anyMatch(c -> c.to == b);
    }

    int nearBy(List<Integer> numbers, int d) {
        int pairs = 0;
        for (int a = 0; a < is.parts.size(); a++) {
            for (int b = 0; b < a; b++) {
                if ((leads(a, b) || leads(b, a)) && Math.abs(numbers.get(a) - numbers.get(b)) < d) pairs++;
            }
        }
        return pairs;
    }

    int near(int d) {
        return d < 1 || d > 24 ? OUTSIDE : nearBy(is.numbers, d);
    }

    int shuffle(int d, int n) {
        if (d < 1 || d > 24 || n < 1 || n > 99) return OUTSIDE;
        List<List<Integer>> tries = new ArrayList<>();
        tries.add(is.numbers);
        for (int i = 0; i < n; i++) {
            List<Integer> next = new ArrayList<>(tries.get(i));
            for (int k = next.size() - 1; k >= 2; k--) {
                int j = 1 + draw(k);
                int v = next.get(k);
                next.set(k, next.get(j));
                next.set(j, v);
            }
            tries.add(next);
        }
        int least = Integer.MAX_VALUE;
        for (List<Integer> numbers : tries) {
            if (nearBy(numbers, d) < least) {
                least = nearBy(numbers, d);
                is.numbers = numbers;
            }
        }
        return least;
    }

    List<Integer> pagesOf(int h) {
        List<List<Integer>> pages = new ArrayList<>();
        pages.add(new ArrayList<>());
        for (int number = 1; number <= is.parts.size(); number++) {
            int p = is.numbers.indexOf(number);
            List<Integer> last = pages.get(pages.size() - 1);
            int full = last.stream().mapToInt(i -> is.parts.get(i).lines()).sum();
            if (!last.isEmpty() && full + is.parts.get(p).lines() > h) {
                last = new ArrayList<>();
                pages.add(last);
            }
            last.add(p);
        }
        List<Integer> row = new ArrayList<>();
        for (int p = 0; p < is.parts.size(); p++) {
            for (int g = 0; g < pages.size(); g++) {
                if (pages.get(g).contains(p)) row.add(g);
            }
        }
        return row;
    }

    int page(int p, int h) {
        if (!isPart(p)) return UNKNOWN;
        return h < 10 || h > 60 ? OUTSIDE : pagesOf(h).get(p);
    }

    int flips(int h) {
        if (h < 10 || h > 60) return OUTSIDE;
        if (is.state == null) return NOT;
        int sum = 0;
        List<Integer> pages = pagesOf(h);
        for (int i = 1; i < is.read.size(); i++) {
            sum += Math.abs(pages.get(is.read.get(i)) - pages.get(is.read.get(i - 1)));
        }
        return sum;
    }

    // ---- blind readers, images

    int seed(int v) {
        if (v < 0) return OUTSIDE;
        int was = (int) is.seed;
        is.seed = v;
        return was;
    }

    int blind(int n) {
        if (n < 1 || n > 99) return OUTSIDE;
        if (is.parts.isEmpty()) return NOT;
        int wins = 0;
        for (int i = 0; i < n; i++) {
            State s = beginning(NONE);
            for (int t = 0; t < 60 && stands(s) == 0; t++) {
                Part part = is.parts.get(s.part);
                int to;
                if (atRoll(s)) {
                    to = draw(6) + 1 >= part.n ? part.p : part.q;
                } else {
                    List<Integer> open = openOf(s);
                    to = part.choices.get(open.get(draw(open.size()))).to;
                }
                s = go(s, to, NONE);
            }
            if (won(s)) wins++;
        }
        return wins;
    }

    int keep(int i) {
        if (i < 0 || i > 1) return UNKNOWN;
        images[i] = is.copy();
        return 1;
    }

    int goBack(int i) {
        if (i < 0 || i > 1) return UNKNOWN;
        if (images[i] == null) return NOT;
        is = images[i].copy();
        return 1;
    }
}
