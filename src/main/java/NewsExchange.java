/**
 * People who spread news by telephone. An exchange text describes people, lines and when lines are
 * broken or people away; calls are arranged and made in rounds; the best round, a plan, the fewest
 * rounds and lower bounds are told.
 */
public final class NewsExchange {
    /** Returned if there is no result. */
    public static final int NONE = -1;

    private static final int LONGEST_TEXT = 500;
    private static final int BYTES_OF_APPEND = 20;
    private static final int USUAL_PEOPLE = 4;
    private static final int FEWEST_PEOPLE = 2;
    private static final int MOST_PEOPLE = 10;
    private static final int MOST_LINES = 24;
    private static final int MOST_SPANS = 12;
    private static final int GREATEST_COST = 999;
    private static final int LAST_NAMED_ROUND = 999;
    private static final int LAST_ROUND = 9999;
    private static final int PLANNED_ROUNDS = 40;
    private static final int AWAITED_ROUNDS = 60;
    private static final int SEARCHED_ROUNDS = 4;
    private static final int SEARCHED_PEOPLE = 6;
    private static final int KEPT_CHANGES = 10;
    private static final int SLOTS = 2;

    private final TextReader reader = new TextReader();
    private Exchange exchange = new Exchange();
    private final Situation now = new Situation();
    private final History history = new History();
    private final Situation[] slots = new Situation[SLOTS];
    private final boolean[] filled = new boolean[SLOTS];
    private final BestSet bestSet = new BestSet();
    private final Planner planner = new Planner();
    private final RoundSearch search = new RoundSearch();
    private final int[] leastCosts = new int[MOST_PEOPLE];

    public NewsExchange() {
        for (int slot = 0; slot < SLOTS; slot++) {
            slots[slot] = new Situation();
        }
        now.begin(exchange.people);
    }

    // ---- exchange

    public int append(int a, int b, int c, int d, int e) {
        if (reader.bytesHeld > LONGEST_TEXT - BYTES_OF_APPEND) {
            return NONE;
        }
        reader.putFourBytes(a);
        reader.putFourBytes(b);
        reader.putFourBytes(c);
        reader.putFourBytes(d);
        reader.putFourBytes(e);
        return reader.bytesHeld;
    }

    public int parse(int length) throws IllegalArgumentException {
        if (length < 0 || length > reader.bytesHeld) {
            throw new IllegalArgumentException("the buffer does not hold so many bytes");
        }
        int code = reader.readExchange(length);
        if (code == TextReader.FINE) {
            exchange = reader.handOver(exchange);
            startAnew();
        }
        return code;
    }

    private void startAnew() {
        now.begin(exchange.people);
        history.forget();
        for (int slot = 0; slot < SLOTS; slot++) {
            filled[slot] = false;
        }
    }

    public int errorPosition() {
        return reader.wrongAt;
    }

    public int size(int what) throws IllegalArgumentException {
        switch (what) {
            case 0:
                return exchange.people;
            case 1:
                return exchange.lineCount;
            case 2:
                return now.rounds;
            case 3:
                return now.calls;
            case 4:
                return Integer.bitCount(now.arrangedLines);
            case 5:
                return Integer.bitCount(now.cutLines);
            default:
                throw new IllegalArgumentException("what is 0 to 5");
        }
    }

    public int line(int line, int what) throws IndexOutOfBoundsException, IllegalArgumentException {
        requireLine(line);
        switch (what) {
            case 0:
                return exchange.first[line];
            case 1:
                return exchange.second[line];
            case 2:
                return exchange.oneWay[line] ? 1 : 0;
            case 3:
                return exchange.cost[line];
            case 4:
                return now.cutLines >> line & 1;
            case 5:
                return now.arrangedLines >> line & 1;
            case 6:
                return exchange.breaks.countOf(line);
            default:
                throw new IllegalArgumentException("what is 0 to 6");
        }
    }

    public boolean isUsable(int line, int round) throws IndexOutOfBoundsException, IllegalArgumentException {
        requireLine(line);
        if (round < 1 || round > LAST_ROUND) {
            throw new IllegalArgumentException("a round is 1 to 9999");
        }
        return isIn(usableLines(round), line);
    }

    public int cheapestLine(int k) {
        for (int line = 0; line < exchange.lineCount; line++) {
            if (exchange.placeByCost(line) == k) {
                return line;
            }
        }
        return NONE;
    }

    // ---- news

    public int known(int person) throws IndexOutOfBoundsException {
        requirePerson(person);
        return now.news.pieces[person];
    }

    public int knowers(int piece) throws IndexOutOfBoundsException {
        requirePerson(piece);
        return now.news.knowersOf(piece);
    }

    public int missing() {
        return now.news.missingPieces();
    }

    public int partner(int person) throws IndexOutOfBoundsException {
        requirePerson(person);
        return exchange.otherPerson(now.arrangedLines, person);
    }

    public int arranged() {
        return now.arrangedLines;
    }

    public int gain() {
        return exchange.gainOf(now.arrangedLines, now.news);
    }

    public int spent(int round) throws IllegalArgumentException {
        if (round < 0 || round > LAST_ROUND) {
            throw new IllegalArgumentException("a round is 0 to 9999 here");
        }
        return now.spentUpTo(round);
    }

    // ---- what would be

    public int best(int what) throws IllegalArgumentException {
        if (what < 0 || what > 2) {
            throw new IllegalArgumentException("what is 0 to 2");
        }
        int lines = bestOfNextRound();
        switch (what) {
            case 0:
                return lines;
            case 1:
                return exchange.gainOf(lines, now.news);
            default:
                return exchange.costOf(lines);
        }
    }

    private int bestOfNextRound() {
        return bestSet.find(exchange, usableLines(now.rounds + 1), now.news);
    }

    public int plan(int what) throws IllegalArgumentException {
        if (what < 0 || what > 3) {
            throw new IllegalArgumentException("what is 0 to 3");
        }
        planner.make(exchange, now, bestSet);
        switch (what) {
            case 0:
                return planner.news.missingPieces() == 0 ? planner.rounds : NONE;
            case 1:
                return planner.calls;
            case 2:
                return planner.cost;
            default:
                return planner.news.missingPieces();
        }
    }

    public int fewest(int limit) throws IllegalArgumentException, IllegalStateException {
        if (limit < 0 || limit > SEARCHED_ROUNDS) {
            throw new IllegalArgumentException("a limit is 0 to 4");
        }
        if (exchange.people > SEARCHED_PEOPLE) {
            throw new IllegalStateException("more than 6 people");
        }
        return search.find(exchange, now, limit);
    }

    public int doublings() {
        return now.news.neededDoublings();
    }

    public int soonest(int person, int piece) throws IndexOutOfBoundsException {
        requirePerson(person);
        requirePerson(piece);
        int knowing = now.news.knowersOf(piece);
        for (int waited = 0; waited <= AWAITED_ROUNDS; waited++) {
            if (isIn(knowing, person)) {
                return waited;
            }
            knowing = exchange.spread(knowing, usableLines(now.rounds + 1 + waited));
        }
        return NONE;
    }

    public int cheapest(int person, int piece) throws IndexOutOfBoundsException {
        requirePerson(person);
        requirePerson(piece);
        exchange.fillLeastCosts(now.news.knowersOf(piece), uncutLines(), leastCosts);
        return leastCosts[person];
    }

    public int vital() {
        int uncut = uncutLines();
        int lines = 0;
        for (int piece = 0; piece < exchange.people; piece++) {
            lines |= exchange.neededLines(now.news.knowersOf(piece), uncut);
        }
        return lines;
    }

    // ---- changes

    public int arrange(int line) throws IndexOutOfBoundsException, IllegalStateException {
        requireLine(line);
        if (isIn(now.arrangedLines, line)) {
            throw new IllegalStateException("the line is arranged");
        }
        if (!canArrange(line)) {
            throw new IllegalStateException("the line cannot be arranged");
        }
        history.remember(now);
        now.arrangedLines |= 1 << line;
        return gain();
    }

    private boolean canArrange(int line) {
        int busy = exchange.personsOf(now.arrangedLines);
        return isIn(usableLines(now.rounds + 1), line) && (busy & exchange.personsOf(1 << line)) == 0;
    }

    public int takeBack(int line) throws IndexOutOfBoundsException, IllegalStateException {
        requireLine(line);
        if (!isIn(now.arrangedLines, line)) {
            throw new IllegalStateException("the line is not arranged");
        }
        history.remember(now);
        now.arrangedLines &= ~(1 << line);
        return gain();
    }

    public int arrangeBest() {
        history.remember(now);
        now.arrangedLines = bestOfNextRound();
        return gain();
    }

    public int ring() throws IllegalStateException {
        if (now.rounds >= LAST_ROUND) {
            throw new IllegalStateException("9999 rounds were made");
        }
        history.remember(now);
        int got = gain();
        exchange.makeCalls(now.arrangedLines, now.news);
        now.endRound(exchange.costOf(now.arrangedLines));
        return got;
    }

    public boolean cut(int line) throws IndexOutOfBoundsException, IllegalStateException {
        requireLine(line);
        if (isIn(now.cutLines, line)) {
            throw new IllegalStateException("the line is cut");
        }
        history.remember(now);
        boolean wasArranged = isIn(now.arrangedLines, line);
        now.cutLines |= 1 << line;
        now.arrangedLines &= ~(1 << line);
        return wasArranged;
    }

    public int mend(int line) throws IndexOutOfBoundsException, IllegalStateException {
        requireLine(line);
        if (!isIn(now.cutLines, line)) {
            throw new IllegalStateException("the line is not cut");
        }
        history.remember(now);
        now.cutLines &= ~(1 << line);
        return Integer.bitCount(now.cutLines);
    }

    public int tell(int person, int piece) throws IndexOutOfBoundsException, IllegalStateException {
        requirePerson(person);
        requirePerson(piece);
        if (isIn(now.news.pieces[person], piece)) {
            throw new IllegalStateException("the person knows the piece");
        }
        history.remember(now);
        now.news.pieces[person] |= 1 << piece;
        return Integer.bitCount(now.news.pieces[person]);
    }

    // ---- undo and snapshots

    public int undo() {
        return history.stepBack(now);
    }

    public boolean saveSnapshot(int slot) throws IndexOutOfBoundsException {
        requireSlot(slot);
        boolean wasFilled = filled[slot];
        slots[slot].copyFrom(now);
        filled[slot] = true;
        return wasFilled;
    }

    public int restoreSnapshot(int slot) throws IndexOutOfBoundsException, IllegalStateException {
        requireSlot(slot);
        if (!filled[slot]) {
            throw new IllegalStateException("the slot is empty");
        }
        now.copyFrom(slots[slot]);
        history.forget();
        return now.rounds;
    }

    // ---- what several methods need

    private void requireLine(int line) {
        if (line < 0 || line >= exchange.lineCount) {
            throw new IndexOutOfBoundsException("no such line");
        }
    }

    /** Also for pieces: there is one of each person. */
    private void requirePerson(int person) {
        if (person < 0 || person >= exchange.people) {
            throw new IndexOutOfBoundsException("no such person or piece");
        }
    }

    private void requireSlot(int slot) {
        if (slot < 0 || slot >= SLOTS) {
            throw new IndexOutOfBoundsException("no such slot");
        }
    }

    private int uncutLines() {
        return exchange.allLines() & ~now.cutLines;
    }

    private int usableLines(int round) {
        return exchange.openLines(round) & ~now.cutLines;
    }

    private static boolean isIn(int bits, int place) {
        return (bits >> place & 1) == 1;
    }

    /** Spans of rounds in which lines are broken, or persons away. */
    private static final class Spans {
        private final int[] whose = new int[MOST_SPANS];
        private final int[] from = new int[MOST_SPANS];
        private final int[] until = new int[MOST_SPANS];
        private int count = 0;

        void clear() {
            count = 0;
        }

        boolean isFull() {
            return count >= MOST_SPANS;
        }

        void add(int subject, int firstRound, int lastRound) {
            if (isFull()) {
                return;
            }
            whose[count] = subject;
            from[count] = firstRound;
            until[count] = lastRound;
            count++;
        }

        int countOf(int subject) {
            int found = 0;
            for (int i = 0; i < count; i++) {
                if (whose[i] == subject) {
                    found++;
                }
            }
            return found;
        }

        /** The lines or persons, as bits, that one of their spans keeps out of a round. */
        int keptOut(int round) {
            int subjects = 0;
            for (int i = 0; i < count; i++) {
                if (from[i] <= round && round <= until[i]) {
                    subjects |= 1 << whose[i];
                }
            }
            return subjects;
        }
    }

    /** What a text describes: no change touches it. Sets of lines and of persons are bits. */
    private static final class Exchange {
        private static final int UNREACHED = 1_000_000;

        private int people = USUAL_PEOPLE;
        private int lineCount = 0;
        private final int[] first = new int[MOST_LINES];
        private final int[] second = new int[MOST_LINES];
        private final int[] cost = new int[MOST_LINES];
        private final boolean[] oneWay = new boolean[MOST_LINES];
        private final Spans breaks = new Spans();
        private final Spans absences = new Spans();

        void clear() {
            people = USUAL_PEOPLE;
            lineCount = 0;
            breaks.clear();
            absences.clear();
        }

        boolean isFull() {
            return lineCount >= MOST_LINES;
        }

        void addLine(int from, int to, boolean forth, int price) {
            if (isFull()) {
                return;
            }
            first[lineCount] = from;
            second[lineCount] = to;
            oneWay[lineCount] = forth;
            cost[lineCount] = price;
            lineCount++;
        }

        int allLines() {
            return (1 << lineCount) - 1;
        }

        /** The lines that would be usable in a round if none were cut. */
        int openLines(int round) {
            int away = absences.keptOut(round);
            int open = allLines() & ~breaks.keptOut(round);
            for (int line = 0; line < lineCount; line++) {
                if (isIn(away, first[line]) || isIn(away, second[line])) {
                    open &= ~(1 << line);
                }
            }
            return open;
        }

        int placeByCost(int line) {
            int before = 0;
            for (int other = 0; other < lineCount; other++) {
                if (cost[other] < cost[line] || cost[other] == cost[line] && other < line) {
                    before++;
                }
            }
            return before;
        }

        int costOf(int lines) {
            int sum = 0;
            for (int line = 0; line < lineCount; line++) {
                if (isIn(lines, line)) {
                    sum += cost[line];
                }
            }
            return sum;
        }

        int personsOf(int lines) {
            int persons = 0;
            for (int line = 0; line < lineCount; line++) {
                if (isIn(lines, line)) {
                    persons |= 1 << first[line] | 1 << second[line];
                }
            }
            return persons;
        }

        int otherPerson(int lines, int person) {
            for (int line = 0; line < lineCount; line++) {
                if (isIn(lines, line) && first[line] == person) {
                    return second[line];
                }
                if (isIn(lines, line) && second[line] == person) {
                    return first[line];
                }
            }
            return NONE;
        }

        int gainOfLine(int line, News news) {
            int mine = news.pieces[first[line]];
            int yours = news.pieces[second[line]];
            int forth = Integer.bitCount(mine & ~yours);
            return oneWay[line] ? forth : forth + Integer.bitCount(yours & ~mine);
        }

        /** Lines without a common person, so that what each brings can be added. */
        int gainOf(int lines, News news) {
            int sum = 0;
            for (int line = 0; line < lineCount; line++) {
                if (isIn(lines, line)) {
                    sum += gainOfLine(line, news);
                }
            }
            return sum;
        }

        /** Lines without a common person, so that one call behind the other is the same as all at once. */
        void makeCalls(int lines, News news) {
            for (int line = 0; line < lineCount; line++) {
                if (isIn(lines, line)) {
                    int all = news.pieces[first[line]] | news.pieces[second[line]];
                    news.pieces[second[line]] = all;
                    if (!oneWay[line]) {
                        news.pieces[first[line]] = all;
                    }
                }
            }
        }

        /** Who knows a piece after all these lines made their calls at once, however many a person is of. */
        int spread(int knowing, int lines) {
            int then = knowing;
            for (int line = 0; line < lineCount; line++) {
                if (isIn(lines, line) && isIn(knowing, first[line])) {
                    then |= 1 << second[line];
                }
                if (isIn(lines, line) && isIn(knowing, second[line]) && !oneWay[line]) {
                    then |= 1 << first[line];
                }
            }
            return then;
        }

        /** Who can get a piece by some row of calls. */
        int reached(int knowing, int lines) {
            int persons = knowing;
            for (int calls = 1; calls < people; calls++) {
                int then = spread(persons, lines);
                if (then == persons) {
                    return persons;
                }
                persons = then;
            }
            return persons;
        }

        /** The lines without which somebody is no longer reached. */
        int neededLines(int knowing, int lines) {
            int all = reached(knowing, lines);
            int needed = 0;
            for (int line = 0; line < lineCount; line++) {
                if (isIn(lines, line) && reached(knowing, lines & ~(1 << line)) != all) {
                    needed |= 1 << line;
                }
            }
            return needed;
        }

        /** For each person the cost of the cheapest row of calls from somebody who knows, NONE if there is none. */
        void fillLeastCosts(int knowing, int lines, int[] costs) {
            for (int person = 0; person < MOST_PEOPLE; person++) {
                costs[person] = isIn(knowing, person) ? 0 : UNREACHED;
            }
            for (int calls = 1; calls < people; calls++) {
                lowerCosts(lines, costs);
            }
            for (int person = 0; person < MOST_PEOPLE; person++) {
                if (costs[person] == UNREACHED) {
                    costs[person] = NONE;
                }
            }
        }

        private void lowerCosts(int lines, int[] costs) {
            for (int line = 0; line < lineCount; line++) {
                if (isIn(lines, line)) {
                    int from = costs[first[line]];
                    int to = costs[second[line]];
                    costs[second[line]] = Math.min(to, added(from, cost[line]));
                    if (!oneWay[line]) {
                        costs[first[line]] = Math.min(from, added(to, cost[line]));
                    }
                }
            }
        }

        private static int added(int costs, int more) {
            return costs == UNREACHED ? UNREACHED : costs + more;
        }
    }

    /** Who knows what. */
    private static final class News {
        private final int[] pieces = new int[MOST_PEOPLE];
        private int people = 0;

        void begin(int many) {
            people = many;
            for (int person = 0; person < MOST_PEOPLE; person++) {
                pieces[person] = person < many ? 1 << person : 0;
            }
        }

        void copyFrom(News other) {
            people = other.people;
            for (int person = 0; person < MOST_PEOPLE; person++) {
                pieces[person] = other.pieces[person];
            }
        }

        int knowersOf(int piece) {
            int persons = 0;
            for (int person = 0; person < people; person++) {
                if (isIn(pieces[person], piece)) {
                    persons |= 1 << person;
                }
            }
            return persons;
        }

        int missingPieces() {
            int sum = people * people;
            for (int person = 0; person < people; person++) {
                sum -= Integer.bitCount(pieces[person]);
            }
            return sum;
        }

        int neededDoublings() {
            int most = 0;
            for (int piece = 0; piece < people; piece++) {
                most = Math.max(most, doublingsFrom(Integer.bitCount(knowersOf(piece))));
            }
            return most;
        }

        private int doublingsFrom(int count) {
            int needed = 0;
            for (int reached = count; reached < people && needed < MOST_PEOPLE; reached *= 2) {
                needed++;
            }
            return needed;
        }
    }

    /**
     * A round that was made, with the one before it. Rounds are never altered, so that situations
     * that go apart after some rounds share them.
     */
    private static final class Round {
        private final int number;
        private final int spentSoFar;
        private final Round before;

        Round(int number, int spentSoFar, Round before) {
            this.number = number;
            this.spentSoFar = spentSoFar;
            this.before = before;
        }
    }

    /** Everything that changes can change. */
    private static final class Situation {
        private final News news = new News();
        private int arrangedLines = 0;
        private int cutLines = 0;
        private int rounds = 0;
        private int calls = 0;
        private Round latest = null;

        void begin(int people) {
            news.begin(people);
            arrangedLines = 0;
            cutLines = 0;
            rounds = 0;
            calls = 0;
            latest = null;
        }

        void copyFrom(Situation other) {
            news.copyFrom(other.news);
            arrangedLines = other.arrangedLines;
            cutLines = other.cutLines;
            rounds = other.rounds;
            calls = other.calls;
            latest = other.latest;
        }

        void endRound(int cost) {
            rounds++;
            calls += Integer.bitCount(arrangedLines);
            latest = new Round(rounds, spentUpTo(LAST_ROUND) + cost, latest);
            arrangedLines = 0;
        }

        int spentUpTo(int round) {
            for (Round made = latest; made != null; made = made.before) {
                if (made.number <= round) {
                    return made.spentSoFar;
                }
            }
            return 0;
        }
    }

    /** The situations before the latest changes, in a row that is used round and round. */
    private static final class History {
        private final Situation[] earlier = new Situation[KEPT_CHANGES];
        private int next = 0;
        private int count = 0;

        History() {
            for (int i = 0; i < KEPT_CHANGES; i++) {
                earlier[i] = new Situation();
            }
        }

        void forget() {
            count = 0;
        }

        void remember(Situation situation) {
            earlier[next].copyFrom(situation);
            next = (next + 1) % KEPT_CHANGES;
            count = Math.min(count + 1, KEPT_CHANGES);
        }

        /** Returns how many changes are left, NONE if there was none. */
        int stepBack(Situation situation) {
            if (count == 0) {
                return NONE;
            }
            next = (next + KEPT_CHANGES - 1) % KEPT_CHANGES;
            count--;
            situation.copyFrom(earlier[next]);
            return count;
        }
    }

    /**
     * Finds the best set of a round. The gain, the cost and the number as bits of a set are each the
     * sum over its lines, so one number can hold all three, worth more if the set is better: the
     * gain high up, below it the cost and the bits to be taken off. (Costs of a free set stay below
     * 2 to the 16, bits below 2 to the 24.)
     */
    private static final class BestSet {
        private static final int COST_SHIFT = 24;
        private static final int GAIN_SHIFT = 40;

        private final long[] worthOfPair = new long[MOST_PEOPLE * MOST_PEOPLE];
        private final long[] worthOfGroup = new long[1 << MOST_PEOPLE];

        int find(Exchange exchange, int usable, News news) {
            if (!rankPairs(exchange, usable, news)) {
                return 0;
            }
            for (int person = 0; person < exchange.people; person++) {
                admit(person);
            }
            long worth = worthOfGroup[(1 << exchange.people) - 1];
            return (int) (-worth & (1 << MOST_LINES) - 1);
        }

        /** Notes the worth of the best line of each two persons; returns whether one gains anything. */
        private boolean rankPairs(Exchange exchange, int usable, News news) {
            boolean any = false;
            for (int i = 0; i < worthOfPair.length; i++) {
                worthOfPair[i] = 0;
            }
            for (int line = 0; line < exchange.lineCount; line++) {
                int gain = isIn(usable, line) ? exchange.gainOfLine(line, news) : 0;
                if (gain > 0) {
                    int pair = pairOf(exchange.first[line], exchange.second[line]);
                    worthOfPair[pair] = Math.max(worthOfPair[pair], worth(gain, exchange.cost[line], line));
                    any = true;
                }
            }
            return any;
        }

        private static int pairOf(int one, int other) {
            return Math.max(one, other) * MOST_PEOPLE + Math.min(one, other);
        }

        private static long worth(int gain, int cost, int line) {
            return ((long) gain << GAIN_SHIFT) - ((long) cost << COST_SHIFT) - (1L << line);
        }

        /**
         * From the best sets of all groups of the persons before this one, those of the groups with
         * this one. The group of nobody, at 0, always stays worth 0.
         */
        private void admit(int person) {
            int groups = 1 << person;
            for (int group = 0; group < groups; group++) {
                worthOfGroup[groups + group] = worthOfGroup[group];
            }
            for (int other = 0; other < person; other++) {
                long worth = worthOfPair[pairOf(person, other)];
                if (worth > 0) {
                    admitWith(groups, other, worth);
                }
            }
        }

        private void admitWith(int groups, int other, long worth) {
            for (int group = 0; group < groups; group++) {
                if (isIn(group, other)) {
                    long with = worth + worthOfGroup[group & ~(1 << other)];
                    worthOfGroup[groups + group] = Math.max(worthOfGroup[groups + group], with);
                }
            }
        }
    }

    /** Plans rounds, the best set in each. */
    private static final class Planner {
        private final News news = new News();
        private int rounds = 0;
        private int calls = 0;
        private int cost = 0;

        void make(Exchange exchange, Situation now, BestSet bestSet) {
            news.copyFrom(now.news);
            rounds = 0;
            calls = 0;
            cost = 0;
            while (rounds < PLANNED_ROUNDS && news.missingPieces() > 0) {
                rounds++;
                int usable = exchange.openLines(now.rounds + rounds) & ~now.cutLines;
                int lines = bestSet.find(exchange, usable, news);
                exchange.makeCalls(lines, news);
                calls += Integer.bitCount(lines);
                cost += exchange.costOf(lines);
            }
        }
    }

    /**
     * Searches the fewest rounds for a few people. To know more never harms, so only those sets are
     * tried to which no call can be added, and of two persons with a line of kind both only that one.
     */
    private static final class RoundSearch {
        private final News[] after = new News[SEARCHED_ROUNDS + 1];
        private final int[][] hears = new int[SEARCHED_ROUNDS][MOST_PEOPLE];
        private final int[][] talks = new int[SEARCHED_ROUNDS][MOST_PEOPLE];
        private int people = 0;
        private int limit = 0;

        RoundSearch() {
            for (int made = 0; made <= SEARCHED_ROUNDS; made++) {
                after[made] = new News();
            }
        }

        int find(Exchange exchange, Situation now, int most) {
            people = Math.min(exchange.people, SEARCHED_PEOPLE);
            for (int made = 0; made <= SEARCHED_ROUNDS; made++) {
                after[made].copyFrom(now.news);
            }
            for (int made = 0; made < SEARCHED_ROUNDS; made++) {
                connect(made, exchange, exchange.openLines(now.rounds + 1 + made) & ~now.cutLines);
            }
            for (int rounds = 0; rounds <= most && rounds <= SEARCHED_ROUNDS; rounds++) {
                limit = rounds;
                if (canEnd(0)) {
                    return rounds;
                }
            }
            return NONE;
        }

        /** Notes for each person whom it can hear in the round behind those that are made, and with whom talk. */
        private void connect(int made, Exchange exchange, int usable) {
            for (int person = 0; person < MOST_PEOPLE; person++) {
                hears[made][person] = 0;
                talks[made][person] = 0;
            }
            for (int line = 0; line < exchange.lineCount; line++) {
                int one = exchange.first[line];
                int other = exchange.second[line];
                if (isIn(usable, line) && exchange.oneWay[line]) {
                    hears[made][other] |= 1 << one;
                } else if (isIn(usable, line)) {
                    talks[made][one] |= 1 << other;
                    talks[made][other] |= 1 << one;
                }
            }
        }

        /** Whether everybody can know everything when the limit's rounds are made, of which some are. */
        private boolean canEnd(int made) {
            if (after[made].neededDoublings() > limit - made) {
                return false;
            }
            if (made >= limit) {
                return true;
            }
            return (made < limit - 1 || allCanLearnTheRest(made)) && pairUp(made, 0, 0, 0);
        }

        /** Ahead of the last round everybody needs somebody who knows all that is missing. */
        private boolean allCanLearnTheRest(int made) {
            for (int person = 0; person < people; person++) {
                if (!canLearnTheRest(made, person)) {
                    return false;
                }
            }
            return true;
        }

        private boolean canLearnTheRest(int made, int person) {
            int[] pieces = after[made].pieces;
            int everything = (1 << people) - 1;
            int others = talks[made][person] | hears[made][person] | 1 << person;
            for (int other = 0; other < people; other++) {
                if (isIn(others, other) && (pieces[person] | pieces[other]) == everything) {
                    return true;
                }
            }
            return false;
        }

        /** Tries the calls of a person and of those behind it in a round. */
        private boolean pairUp(int made, int person, int taken, int alone) {
            int next = person;
            while (next < people && isIn(taken, next)) {
                next++;
            }
            if (next >= people) {
                return canEnd(made + 1);
            }
            for (int other = next + 1; other < people; other++) {
                if (!isIn(taken, other) && tryPair(made, next, other, taken, alone)) {
                    return true;
                }
            }
            return tryAlone(made, next, taken, alone);
        }

        private boolean tryPair(int made, int person, int other, int taken, int alone) {
            int mine = after[made].pieces[person];
            int yours = after[made].pieces[other];
            int[] then = after[made + 1].pieces;
            int takenThen = taken | 1 << other;
            then[person] = mine | yours;
            then[other] = mine | yours;
            if (isIn(talks[made][person], other)) {
                return goOn(made, person, other, takenThen, alone);
            }
            then[person] = mine;
            if (isIn(hears[made][other], person) && goOn(made, person, other, takenThen, alone)) {
                return true;
            }
            then[person] = mine | yours;
            then[other] = yours;
            return isIn(hears[made][person], other) && goOn(made, person, other, takenThen, alone);
        }

        /** Nobody stays alone beside somebody alone who could be called. */
        private boolean tryAlone(int made, int person, int taken, int alone) {
            if (couldCall(made, person, alone)) {
                return false;
            }
            after[made + 1].pieces[person] = after[made].pieces[person];
            return goOn(made, person, person, taken, alone | 1 << person);
        }

        /** Goes on behind two persons, or one alone; what they do not know after the last round they never will. */
        private boolean goOn(int made, int person, int other, int taken, int alone) {
            int both = after[made + 1].pieces[person] & after[made + 1].pieces[other];
            boolean enough = made + 1 < limit || both == (1 << people) - 1;
            return enough && pairUp(made, person + 1, taken, alone);
        }

        private boolean couldCall(int made, int person, int others) {
            for (int other = 0; other < people; other++) {
                if (isIn(others, other) && isIn(hears[made][other], person)) {
                    return true;
                }
            }
            return (others & (talks[made][person] | hears[made][person])) != 0;
        }
    }

    /** Holds the input buffer and reads an exchange text from it token by token, up to the first error. */
    private static final class TextReader {
        private static final int FINE = 0;
        private static final int WRONG_TOKEN = 1;
        private static final int LATE_PEOPLE = 2;
        private static final int OUT_OF_RANGE = 3;
        private static final int TOO_MANY = 4;

        private static final int LONGEST_WORD = 8;
        private static final int LONGEST_NUMBER = 4;

        private static final int END = 0;
        private static final int WORD = 1;
        private static final int NUMBER = 2;
        private static final int SEMICOLON = 3;
        private static final int INVALID = 4;

        private final byte[] text = new byte[LONGEST_TEXT];
        private int bytesHeld = 0;
        private Exchange draft = new Exchange();
        private int code = FINE;
        private int wrongAt = NONE;
        private int length = 0;
        private int kind = END;
        private int start = 0;
        private int end = 0;
        private int number = 0;

        void putFourBytes(int four) {
            for (int shift = 24; shift >= 0 && bytesHeld < LONGEST_TEXT; shift -= 8) {
                text[bytesHeld] = (byte) (four >> shift);
                bytesHeld++;
            }
        }

        /** Empties the buffer; returns the error's code, FINE if there is none and the draft can be had. */
        int readExchange(int byteCount) {
            length = Math.min(byteCount, bytesHeld);
            bytesHeld = 0;
            code = FINE;
            wrongAt = NONE;
            end = 0;
            draft.clear();
            for (int statements = 0; statements < LONGEST_TEXT; statements++) {
                nextToken();
                if (kind == END || !readStatement(statements == 0)) {
                    return code;
                }
            }
            return code;
        }

        /** Swaps the exchange that was read for one whose rows can be used for the next. */
        Exchange handOver(Exchange old) {
            Exchange read = draft;
            draft = old;
            return read;
        }

        private boolean fail(int reason) {
            code = reason;
            wrongAt = start;
            return false;
        }

        private boolean readStatement(boolean isFirst) {
            if (isWord("people")) {
                return readPeople(isFirst);
            }
            if (isWord("line")) {
                return readLine();
            }
            if (isWord("broken")) {
                return readSpan(draft.breaks, draft.lineCount);
            }
            if (isWord("away")) {
                return readSpan(draft.absences, draft.people);
            }
            return fail(WRONG_TOKEN);
        }

        private boolean readPeople(boolean isFirst) {
            if (!isFirst) {
                return fail(LATE_PEOPLE);
            }
            if (!readNumber(FEWEST_PEOPLE, MOST_PEOPLE)) {
                return false;
            }
            draft.people = number;
            return readSemicolon();
        }

        private boolean readLine() {
            if (draft.isFull()) {
                return fail(TOO_MANY);
            }
            if (!readNumber(0, draft.people - 1)) {
                return false;
            }
            int first = number;
            if (!readNumber(0, draft.people - 1)) {
                return false;
            }
            int second = number;
            if (second == first) {
                return fail(OUT_OF_RANGE);
            }
            nextToken();
            boolean forth = isWord("forth");
            if (!forth && !isWord("both")) {
                return fail(WRONG_TOKEN);
            }
            if (!readNumber(0, GREATEST_COST)) {
                return false;
            }
            draft.addLine(first, second, forth, number);
            return readSemicolon();
        }

        private boolean readSpan(Spans spans, int subjects) {
            if (spans.isFull()) {
                return fail(TOO_MANY);
            }
            if (!readNumber(0, subjects - 1)) {
                return false;
            }
            int subject = number;
            if (!readNumber(1, LAST_NAMED_ROUND)) {
                return false;
            }
            int first = number;
            if (!readNumber(first, LAST_NAMED_ROUND)) {
                return false;
            }
            spans.add(subject, first, number);
            return readSemicolon();
        }

        private boolean readNumber(int least, int greatest) {
            nextToken();
            if (kind != NUMBER) {
                return fail(WRONG_TOKEN);
            }
            number = 0;
            for (int place = start; place < end; place++) {
                number = number * 10 + text[place] - '0';
            }
            return number >= least && number <= greatest || fail(OUT_OF_RANGE);
        }

        private boolean readSemicolon() {
            nextToken();
            return kind == SEMICOLON || fail(WRONG_TOKEN);
        }

        private boolean isWord(String word) {
            if (kind != WORD || end - start != word.length()) {
                return false;
            }
            for (int i = 0; i < word.length(); i++) {
                if (text[start + i] != word.charAt(i)) {
                    return false;
                }
            }
            return true;
        }

        private void nextToken() {
            skipSeparators();
            if (start >= length) {
                kind = END;
            } else if (takeRun('a', 'z')) {
                kind = end - start <= LONGEST_WORD ? WORD : INVALID;
            } else if (takeRun('0', '9')) {
                kind = end - start <= LONGEST_NUMBER ? NUMBER : INVALID;
            } else {
                kind = text[start] == ';' ? SEMICOLON : INVALID;
                end = start + 1;
            }
        }

        private void skipSeparators() {
            start = end;
            while (start < length && (text[start] == ' ' || text[start] == '\n')) {
                start++;
            }
            end = start;
        }

        /** Whether a run of these signs is here; the token ends behind it then. */
        private boolean takeRun(char least, char greatest) {
            while (end < length && text[end] >= least && text[end] <= greatest) {
                end++;
            }
            return end > start;
        }
    }
}
