import java.nio.charset.StandardCharsets;
import java.util.ArrayDeque;
import java.util.ArrayList;
import java.util.Arrays;
import java.util.Deque;
import java.util.HashSet;
import java.util.List;
import java.util.Set;
import java.util.TreeMap;
import java.util.TreeSet;
import java.util.regex.Matcher;
import java.util.regex.Pattern;

/** The document once more, by trying everything out, to compare the program with. */
final class PlainExchange {
    private record Line(int from, int to, boolean forth, int cost) {
    }

    private record Span(int whose, int first, int last) {
        boolean includes(int round) {
            return first <= round && round <= last;
        }
    }

    private static final class State {
        List<Set<Integer>> known = new ArrayList<>();
        Set<Integer> arranged = new TreeSet<>();
        Set<Integer> cut = new TreeSet<>();
        TreeMap<Integer, Integer> costs = new TreeMap<>();
        int rounds = 0;
        int calls = 0;

        State copy() {
            State s = new State();
            s.known = copyOf(known);
            s.arranged.addAll(arranged);
            s.cut.addAll(cut);
            s.costs.putAll(costs);
            s.rounds = rounds;
            s.calls = calls;
            return s;
        }
    }

    private static final class Wrong extends Exception {
        private static final long serialVersionUID = 1;
        final int code;
        final int position;

        Wrong(int code, int position) {
            this.code = code;
            this.position = position;
        }
    }

    private record Token(String text, int position) {
    }

    private static final Pattern TOKEN = Pattern.compile("[a-z]+|[0-9]+|[^ \n]");

    private final StringBuilder buffer = new StringBuilder();
    private int errorAt = -1;
    private int people = 4;
    private List<Line> lines = new ArrayList<>();
    private List<Span> broken = new ArrayList<>();
    private List<Span> away = new ArrayList<>();
    private State now = new State();
    private final Deque<State> history = new ArrayDeque<>();
    private final State[] slots = new State[2];

    PlainExchange() {
        begin();
    }

    private static List<Set<Integer>> copyOf(List<Set<Integer>> known) {
        List<Set<Integer>> copy = new ArrayList<>();
        for (Set<Integer> set : known) {
            copy.add(new TreeSet<>(set));
        }
        return copy;
    }

    private void begin() {
        now = new State();
        for (int person = 0; person < people; person++) {
            now.known.add(new TreeSet<>(Set.of(person)));
        }
        history.clear();
        Arrays.fill(slots, null);
    }

    private static int bits(Set<Integer> set) {
        int sum = 0;
        for (int element : set) {
            sum += 1 << element;
        }
        return sum;
    }

    int append(int... words) {
        if (buffer.length() + 20 > 500) {
            return -1;
        }
        for (int word : words) {
            byte[] bytes = {(byte) (word >>> 24), (byte) (word >>> 16), (byte) (word >>> 8), (byte) word};
            buffer.append(new String(bytes, StandardCharsets.ISO_8859_1));
        }
        return buffer.length();
    }

    int parse(int length) {
        if (length < 0 || length > buffer.length()) {
            throw new IllegalArgumentException();
        }
        String text = buffer.substring(0, length);
        buffer.setLength(0);
        try {
            read(text);
            errorAt = -1;
            return 0;
        } catch (Wrong wrong) {
            errorAt = wrong.position;
            return wrong.code;
        }
    }

    private void read(String text) throws Wrong {
        Deque<Token> tokens = new ArrayDeque<>();
        Matcher matcher = TOKEN.matcher(text);
        while (matcher.find()) {
            tokens.add(new Token(matcher.group(), matcher.start()));
        }
        int many = 4;
        List<Line> newLines = new ArrayList<>();
        List<Span> newBroken = new ArrayList<>();
        List<Span> newAway = new ArrayList<>();
        boolean first = true;
        int end = text.length();
        while (!tokens.isEmpty()) {
            Token word = tokens.remove();
            switch (word.text) {
                case "people" -> {
                    limit(first, 2, word);
                    many = number(tokens, end, 2, 10);
                }
                case "line" -> {
                    limit(newLines.size() < 24, 4, word);
                    int from = number(tokens, end, 0, many - 1);
                    int at = tokens.isEmpty() ? end : tokens.peek().position;
                    int to = number(tokens, end, 0, many - 1);
                    if (from == to) {
                        throw new Wrong(3, at);
                    }
                    boolean forth = word(tokens, end, "both", "forth") == 1;
                    newLines.add(new Line(from, to, forth, number(tokens, end, 0, 999)));
                }
                case "broken" -> {
                    limit(newBroken.size() < 12, 4, word);
                    newBroken.add(span(tokens, end, newLines.size()));
                }
                case "away" -> {
                    limit(newAway.size() < 12, 4, word);
                    newAway.add(span(tokens, end, many));
                }
                default -> throw new Wrong(1, word.position);
            }
            word(tokens, end, ";");
            first = false;
        }
        people = many;
        lines = newLines;
        broken = newBroken;
        away = newAway;
        begin();
    }

    private static void limit(boolean fine, int code, Token word) throws Wrong {
        if (!fine) {
            throw new Wrong(code, word.position);
        }
    }

    private static Span span(Deque<Token> tokens, int end, int subjects) throws Wrong {
        int whose = number(tokens, end, 0, subjects - 1);
        int first = number(tokens, end, 1, 999);
        return new Span(whose, first, number(tokens, end, first, 999));
    }

    private static int number(Deque<Token> tokens, int end, int least, int greatest) throws Wrong {
        Token token = next(tokens, end);
        if (!token.text.matches("[0-9]{1,4}")) {
            throw new Wrong(1, token.position);
        }
        int number = Integer.parseInt(token.text);
        if (number < least || number > greatest) {
            throw new Wrong(3, token.position);
        }
        return number;
    }

    private static int word(Deque<Token> tokens, int end, String... words) throws Wrong {
        Token token = next(tokens, end);
        int index = Arrays.asList(words).indexOf(token.text);
        if (index < 0) {
            throw new Wrong(1, token.position);
        }
        return index;
    }

    private static Token next(Deque<Token> tokens, int end) throws Wrong {
        if (tokens.isEmpty()) {
            throw new Wrong(1, end);
        }
        return tokens.remove();
    }

    int errorPosition() {
        return errorAt;
    }

    int size(int what) {
        range(what, 0, 5);
        return new int[] {people, lines.size(), now.rounds, now.calls, now.arranged.size(), now.cut.size()}[what];
    }

    int line(int line, int what) {
        lineExists(line);
        range(what, 0, 6);
        Line l = lines.get(line);
        int spans = (int) broken.stream().filter(b -> b.whose == line).count();
        return new int[] {l.from, l.to, l.forth ? 1 : 0, l.cost, now.cut.contains(line) ? 1 : 0,
            now.arranged.contains(line) ? 1 : 0, spans}[what];
    }

    boolean isUsable(int line, int round) {
        lineExists(line);
        range(round, 1, 9999);
        return usable(line, round);
    }

    private boolean usable(int line, int round) {
        Line l = lines.get(line);
        return !now.cut.contains(line)
            && broken.stream().noneMatch(b -> b.whose == line && b.includes(round))
            && away.stream().noneMatch(a -> (a.whose == l.from || a.whose == l.to) && a.includes(round));
    }

    int cheapestLine(int k) {
        List<Integer> order = new ArrayList<>();
        for (int line = 0; line < lines.size(); line++) {
            order.add(line);
        }
        order.sort((a, b) -> lines.get(a).cost - lines.get(b).cost);
        return k < 0 || k >= order.size() ? -1 : order.get(k);
    }

    int known(int person) {
        personExists(person);
        return bits(now.known.get(person));
    }

    int knowers(int piece) {
        personExists(piece);
        return bits(knowersOf(now.known, piece));
    }

    private Set<Integer> knowersOf(List<Set<Integer>> known, int piece) {
        Set<Integer> persons = new TreeSet<>();
        for (int person = 0; person < people; person++) {
            if (known.get(person).contains(piece)) {
                persons.add(person);
            }
        }
        return persons;
    }

    int missing() {
        return missingIn(now.known);
    }

    private int missingIn(List<Set<Integer>> known) {
        int sum = 0;
        for (Set<Integer> set : known) {
            sum += people - set.size();
        }
        return sum;
    }

    int partner(int person) {
        personExists(person);
        for (int line : now.arranged) {
            Line l = lines.get(line);
            if (l.from == person || l.to == person) {
                return l.from + l.to - person;
            }
        }
        return -1;
    }

    int arranged() {
        return bits(now.arranged);
    }

    /** What everybody knows after calls that are all made at once. */
    private List<Set<Integer>> after(List<Set<Integer>> known, Iterable<Integer> calls) {
        List<Set<Integer>> then = copyOf(known);
        for (int line : calls) {
            Line l = lines.get(line);
            then.get(l.to).addAll(known.get(l.from));
            if (!l.forth) {
                then.get(l.from).addAll(known.get(l.to));
            }
        }
        return then;
    }

    private int gainOf(List<Set<Integer>> known, Iterable<Integer> calls) {
        return missingIn(known) - missingIn(after(known, calls));
    }

    private int costOf(Iterable<Integer> calls) {
        int sum = 0;
        for (int line : calls) {
            sum += lines.get(line).cost;
        }
        return sum;
    }

    int gain() {
        return gainOf(now.known, now.arranged);
    }

    int spent(int round) {
        range(round, 0, 9999);
        return now.costs.headMap(round, true).values().stream().mapToInt(i -> i).sum();
    }

    /** All sets that are free in a round. */
    private List<Set<Integer>> freeSets(int round) {
        List<Set<Integer>> sets = new ArrayList<>();
        sets.add(new TreeSet<>());
        for (int line = 0; line < lines.size(); line++) {
            if (usable(line, round)) {
                for (int i = sets.size() - 1; i >= 0; i--) {
                    if (canJoin(sets.get(i), line)) {
                        Set<Integer> more = new TreeSet<>(sets.get(i));
                        more.add(line);
                        sets.add(more);
                    }
                }
            }
        }
        return sets;
    }

    private boolean canJoin(Set<Integer> set, int line) {
        Line l = lines.get(line);
        for (int other : set) {
            Line o = lines.get(other);
            if (l.from == o.from || l.from == o.to || l.to == o.from || l.to == o.to) {
                return false;
            }
        }
        return true;
    }

    private Set<Integer> bestSet(List<Set<Integer>> known, int round) {
        Set<Integer> best = new TreeSet<>();
        for (Set<Integer> set : freeSets(round)) {
            int more = gainOf(known, set) - gainOf(known, best);
            int dearer = costOf(set) - costOf(best);
            if (more > 0 || more == 0 && (dearer < 0 || dearer == 0 && bits(set) < bits(best))) {
                best = set;
            }
        }
        return best;
    }

    int best(int what) {
        range(what, 0, 2);
        Set<Integer> set = bestSet(now.known, now.rounds + 1);
        return new int[] {bits(set), gainOf(now.known, set), costOf(set)}[what];
    }

    int plan(int what) {
        range(what, 0, 3);
        List<Set<Integer>> known = now.known;
        int rounds = 0;
        int calls = 0;
        int cost = 0;
        while (missingIn(known) > 0 && rounds < 40) {
            rounds++;
            Set<Integer> set = bestSet(known, now.rounds + rounds);
            if (gainOf(known, set) > 0) {
                calls += set.size();
                cost += costOf(set);
                known = after(known, set);
            }
        }
        return new int[] {missingIn(known) == 0 ? rounds : -1, calls, cost, missingIn(known)}[what];
    }

    int fewest(int limit) {
        range(limit, 0, 4);
        if (people > 6) {
            throw new IllegalStateException();
        }
        Set<List<Set<Integer>>> reached = new HashSet<>();
        reached.add(now.known);
        for (int rounds = 0; rounds <= limit; rounds++) {
            if (reached.stream().anyMatch(known -> missingIn(known) == 0)) {
                return rounds;
            }
            Set<List<Set<Integer>>> next = new HashSet<>();
            List<Set<Integer>> sets = freeSets(now.rounds + rounds + 1);
            for (List<Set<Integer>> known : reached) {
                for (Set<Integer> set : sets) {
                    next.add(after(known, set));
                }
            }
            reached = next;
        }
        return -1;
    }

    /** About how long fewest would take here, to be left out if it is too long. */
    long labourOfFewest() {
        return people > 6 ? 0 : freeSets(now.rounds + 1).size();
    }

    int doublings() {
        int most = 0;
        for (int piece = 0; piece < people; piece++) {
            int needed = 0;
            while (knowersOf(now.known, piece).size() << needed < people) {
                needed++;
            }
            most = Math.max(most, needed);
        }
        return most;
    }

    int soonest(int person, int piece) {
        personExists(person);
        personExists(piece);
        List<Set<Integer>> known = now.known;
        for (int rounds = 0; rounds <= 60; rounds++) {
            if (known.get(person).contains(piece)) {
                return rounds;
            }
            List<Integer> calls = new ArrayList<>();
            for (int line = 0; line < lines.size(); line++) {
                if (usable(line, now.rounds + rounds + 1)) {
                    calls.add(line);
                }
            }
            known = after(known, calls);
        }
        return -1;
    }

    /** Least costs between all persons, a great number where there is no way (Floyd and Warshall). */
    private int[][] leastCosts(int without) {
        int[][] costs = new int[people][people];
        for (int a = 0; a < people; a++) {
            Arrays.fill(costs[a], 1_000_000);
            costs[a][a] = 0;
        }
        for (int line = 0; line < lines.size(); line++) {
            Line l = lines.get(line);
            if (line != without && !now.cut.contains(line)) {
                costs[l.from][l.to] = Math.min(costs[l.from][l.to], l.cost);
                if (!l.forth) {
                    costs[l.to][l.from] = Math.min(costs[l.to][l.from], l.cost);
                }
            }
        }
        for (int c = 0; c < people; c++) {
            for (int a = 0; a < people; a++) {
                for (int b = 0; b < people; b++) {
                    costs[a][b] = Math.min(costs[a][b], costs[a][c] + costs[c][b]);
                }
            }
        }
        return costs;
    }

    private int cheapestBy(int[][] costs, int person, int piece) {
        int least = 1_000_000;
        for (int knower : knowersOf(now.known, piece)) {
            least = Math.min(least, costs[knower][person]);
        }
        return least == 1_000_000 ? -1 : least;
    }

    int cheapest(int person, int piece) {
        personExists(person);
        personExists(piece);
        return cheapestBy(leastCosts(-1), person, piece);
    }

    int vital() {
        Set<Integer> found = new TreeSet<>();
        int[][] all = leastCosts(-1);
        for (int line = 0; line < lines.size(); line++) {
            int[][] fewer = leastCosts(line);
            for (int person = 0; person < people; person++) {
                for (int piece = 0; piece < people; piece++) {
                    if (cheapestBy(all, person, piece) >= 0 && cheapestBy(fewer, person, piece) < 0) {
                        found.add(line);
                    }
                }
            }
        }
        return bits(found);
    }

    private void remember() {
        history.push(now.copy());
        if (history.size() > 10) {
            history.removeLast();
        }
    }

    int arrange(int line) {
        lineExists(line);
        state(!now.arranged.contains(line) && usable(line, now.rounds + 1) && canJoin(now.arranged, line));
        remember();
        now.arranged.add(line);
        return gain();
    }

    int takeBack(int line) {
        lineExists(line);
        state(now.arranged.contains(line));
        remember();
        now.arranged.remove(line);
        return gain();
    }

    int arrangeBest() {
        remember();
        now.arranged = new TreeSet<>(bestSet(now.known, now.rounds + 1));
        return gain();
    }

    int ring() {
        state(now.rounds < 9999);
        remember();
        int got = gain();
        now.rounds++;
        now.calls += now.arranged.size();
        now.costs.put(now.rounds, costOf(now.arranged));
        now.known = after(now.known, now.arranged);
        now.arranged.clear();
        return got;
    }

    boolean cut(int line) {
        lineExists(line);
        state(!now.cut.contains(line));
        remember();
        now.cut.add(line);
        return now.arranged.remove(line);
    }

    int mend(int line) {
        lineExists(line);
        state(now.cut.contains(line));
        remember();
        now.cut.remove(line);
        return now.cut.size();
    }

    int tell(int person, int piece) {
        personExists(person);
        personExists(piece);
        state(!now.known.get(person).contains(piece));
        remember();
        now.known.get(person).add(piece);
        return now.known.get(person).size();
    }

    int undo() {
        if (history.isEmpty()) {
            return -1;
        }
        now = history.pop();
        return history.size();
    }

    boolean saveSnapshot(int slot) {
        exists(slot, 2);
        boolean earlier = slots[slot] != null;
        slots[slot] = now.copy();
        return earlier;
    }

    int restoreSnapshot(int slot) {
        exists(slot, 2);
        state(slots[slot] != null);
        now = slots[slot].copy();
        history.clear();
        return now.rounds;
    }

    private void lineExists(int line) {
        exists(line, lines.size());
    }

    private void personExists(int person) {
        exists(person, people);
    }

    private static void exists(int index, int count) {
        if (index < 0 || index >= count) {
            throw new IndexOutOfBoundsException();
        }
    }

    private static void range(int number, int least, int greatest) {
        if (number < least || number > greatest) {
            throw new IllegalArgumentException();
        }
    }

    private static void state(boolean fine) {
        if (!fine) {
            throw new IllegalStateException();
        }
    }
}
