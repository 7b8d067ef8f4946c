/**
 * The boundary cases of promises 5 to 22: for each sentence the least and the greatest that is
 * allowed, the first ones beyond, nothing, everything full, what is refused.
 */
public final class QuestionBoundsTest {
    private static final Checks CHECKS = new Checks("QuestionBoundsTest");
    private static final int MIN = Integer.MIN_VALUE;
    private static final int MAX = Integer.MAX_VALUE;

    public static void main(String[] args) {
        questionsChangeNothing();
        promise5What();
        promise5Greatest();
        promise6Line();
        promise6What();
        promise6Greatest();
        promise7Round();
        promise7FirstAndLast();
        promise7Persons();
        promise7Cut();
        promise8Place();
        promise8SameCost();
        promise9And10Bounds();
        promise9And10All();
        promise11Missing();
        promise12Partner();
        promise13Arranged();
        promise14Gain();
        promise15Round();
        promise15Spent();
        promise16What();
        promise16Nothing();
        promise16Ties();
        promise16NextRound();
        promise17What();
        promise17Nothing();
        promise17FortyRounds();
        promise17GainOfNothing();
        promise17ManyRounds();
        promise18Limit();
        promise18People();
        promise18Rounds();
        promise18Broken();
        promise19Doublings();
        promise20Persons();
        promise20SixtyRounds();
        promise21Persons();
        promise21Costs();
        promise22Vital();
        CHECKS.end();
    }

    private static final String FIVE = "people 4;line 0 1 both 3;line 2 3 both 4;line 0 2 forth 5;line 3 1 both 4;line 1 2 both 0;"
        + "broken 2 2 3;away 3 3 3;";

    private static NewsExchange busy() {
        NewsExchange x = Texts.exchange(FIVE);
        x.arrange(0);
        x.ring();
        x.saveSnapshot(1);
        x.cut(4);
        x.arrange(1);
        x.tell(0, 3);
        Texts.append(x, "people 3;?");
        return x;
    }

    /** Ten persons of whom each even one is connected with the next odd one, and back, and more. */
    private static NewsExchange full() {
        StringBuilder text = new StringBuilder("people 10;");
        for (int line = 0; line < 24; line++) {
            int person = 2 * (line % 5);
            text.append("line").append(person).append(" ").append(person + 1).append("both999;");
        }
        return Texts.exchange(text.toString());
    }

    private static void tellAll(NewsExchange x) {
        for (int person = 0; person < x.size(0); person++) {
            for (int piece = 0; piece < x.size(0); piece++) {
                if (person != piece) {
                    x.tell(person, piece);
                }
            }
        }
    }

    /** What only asks, or asks for what is not there, leaves everything as it was. */
    private static void questionsChangeNothing() {
        Twins twins = new Twins(CHECKS, QuestionBoundsTest::busy);
        twins.badArgument("size(6)", x -> x.size(6));
        twins.noPlace("line(5, 0)", x -> x.line(5, 0));
        twins.badArgument("line(4, 7)", x -> x.line(4, 7));
        twins.noPlace("isUsable(5, 1)", x -> x.isUsable(5, 1) ? 1 : 0);
        twins.badArgument("isUsable(4, 0)", x -> x.isUsable(4, 0) ? 1 : 0);
        twins.answering("cheapestLine(5)", -1, x -> x.cheapestLine(5));
        twins.noPlace("known(4)", x -> x.known(4));
        twins.noPlace("knowers(4)", x -> x.knowers(4));
        twins.noPlace("partner(4)", x -> x.partner(4));
        twins.badArgument("spent(-1)", x -> x.spent(-1));
        twins.badArgument("best(3)", x -> x.best(3));
        twins.badArgument("plan(4)", x -> x.plan(4));
        twins.badArgument("fewest(5)", x -> x.fewest(5));
        twins.noPlace("soonest(4, 0)", x -> x.soonest(4, 0));
        twins.noPlace("cheapest(0, 4)", x -> x.cheapest(0, 4));
        twins.answering("best(1)", 3, x -> x.best(1));
        twins.answering("plan(3)", 0, x -> x.plan(3));
        twins.answering("fewest(1)", -1, x -> x.fewest(1));
        twins.answering("vital()", 11, NewsExchange::vital);
    }

    private static void promise5What() {
        for (NewsExchange x : new NewsExchange[] {new NewsExchange(), busy(), full()}) {
            for (int what : new int[] {MIN, -2, -1, 6, 7, MAX}) {
                CHECKS.dueBadArgument("size(" + what + ")", () -> x.size(what));
            }
        }
        int[] due = {4, 5, 1, 1, 1, 1};
        for (int what = 0; what <= 5; what++) {
            CHECKS.due("size(" + what + ")", busy().size(what), due[what]);
            CHECKS.due("size(" + what + ") at first", new NewsExchange().size(what), what == 0 ? 4 : 0);
        }
    }

    private static void promise5Greatest() {
        NewsExchange x = full();
        CHECKS.due("people", x.size(0), 10);
        CHECKS.due("lines", x.size(1), 24);
        for (int line = 0; line < 5; line++) {
            CHECKS.due("arranged", x.size(4), line);
            x.arrange(line);
        }
        CHECKS.due("arranged", x.size(4), 5);
        x.ring();
        CHECKS.due("calls", x.size(3), 5);
        CHECKS.due("arranged", x.size(4), 0);
        for (int line = 0; line < 24; line++) {
            CHECKS.due("cut", x.size(5), line);
            x.cut(line);
        }
        CHECKS.due("cut", x.size(5), 24);
        CHECKS.due("lines that are cut are lines", x.size(1), 24);
    }

    private static void promise6Line() {
        NewsExchange none = new NewsExchange();
        NewsExchange five = busy();
        NewsExchange full = full();
        for (int line : new int[] {MIN, -1, 0, 1, MAX}) {
            CHECKS.dueNoPlace("no lines", () -> none.line(line, 0));
        }
        for (int line : new int[] {MIN, -1, 5, 23, 24, 31, 32, 33, MAX}) {
            CHECKS.dueNoPlace("5 lines", () -> five.line(line, 0));
            CHECKS.dueNoPlace("the line is checked first", () -> five.line(line, -1));
            CHECKS.dueNoPlace("the line is checked first", () -> five.line(line, 7));
        }
        CHECKS.due("the least", five.line(0, 3), 3);
        CHECKS.due("the greatest", five.line(4, 3), 0);
        for (int line : new int[] {MIN, -1, 24, 32, MAX}) {
            CHECKS.dueNoPlace("24 lines", () -> full.line(line, 0));
        }
        CHECKS.due("the greatest of all", full.line(23, 0), 6);
    }

    private static void promise6What() {
        NewsExchange x = busy();
        for (int what : new int[] {MIN, -2, -1, 7, 8, MAX}) {
            CHECKS.dueBadArgument("what " + what, () -> x.line(0, what));
            CHECKS.dueBadArgument("what " + what, () -> x.line(4, what));
        }
        int[][] due = {{0, 1, 0, 3, 0, 0, 0}, {2, 3, 0, 4, 0, 1, 0}, {0, 2, 1, 5, 0, 0, 1}, {3, 1, 0, 4, 0, 0, 0}, {1, 2, 0, 0, 1, 0, 0}};
        for (int line = 0; line < 5; line++) {
            for (int what = 0; what <= 6; what++) {
                CHECKS.due("line(" + line + ", " + what + ")", x.line(line, what), due[line][what]);
            }
        }
    }

    private static void promise6Greatest() {
        StringBuilder text = new StringBuilder("people10;");
        text.append("line0 1both0;".repeat(23)).append("line9 8forth999;").append("broken23 9 9;".repeat(12));
        NewsExchange x = Texts.exchange(text.toString());
        int[] due = {9, 8, 1, 999, 0, 0, 12};
        for (int what = 0; what <= 6; what++) {
            CHECKS.due("line(23, " + what + ")", x.line(23, what), due[what]);
        }
        x.arrange(23);
        CHECKS.due("arranged", x.line(23, 5), 1);
        x.cut(23);
        CHECKS.due("cut", x.line(23, 4), 1);
        CHECKS.due("not arranged", x.line(23, 5), 0);
    }

    private static void promise7Round() {
        NewsExchange x = busy();
        for (int round : new int[] {MIN, -1, 0, 10000, 10001, MAX}) {
            CHECKS.dueBadArgument("round " + round, () -> x.isUsable(0, round) ? 1 : 0);
            CHECKS.dueBadArgument("round " + round + " of a line that is cut", () -> x.isUsable(4, round) ? 1 : 0);
            CHECKS.dueNoPlace("the line is checked first", () -> x.isUsable(5, round) ? 1 : 0);
            CHECKS.dueNoPlace("the line is checked first", () -> x.isUsable(-1, round) ? 1 : 0);
        }
        for (int line : new int[] {MIN, -1, 5, 24, 32, MAX}) {
            CHECKS.dueNoPlace("line " + line, () -> x.isUsable(line, 1) ? 1 : 0);
        }
        for (int round : new int[] {1, 2, 999, 1000, 9998, 9999}) {
            CHECKS.due("round " + round, x.isUsable(0, round), true);
        }
        NewsExchange none = new NewsExchange();
        CHECKS.dueNoPlace("no lines", () -> none.isUsable(0, 1) ? 1 : 0);
    }

    /** From first to last, both included: of one round, of all, of several that meet. */
    private static void promise7FirstAndLast() {
        for (String statement : new String[] {"broken 0 ", "away 0 ", "away 1 "}) {
            NewsExchange x = Texts.exchange("line 0 1 both 1;" + statement + "7 7;");
            for (int round = 1; round <= 12; round++) {
                CHECKS.due(statement + "one round", x.isUsable(0, round), round != 7);
            }
            NewsExchange all = Texts.exchange("line 0 1 both 1;" + statement + "1 999;");
            for (int round : new int[] {1, 2, 500, 998, 999, 1000, 9999}) {
                CHECKS.due(statement + "all rounds", all.isUsable(0, round), round >= 1000);
            }
            NewsExchange met = Texts.exchange("line 0 1 both 1;" + statement + "5 6;" + statement + "7 8;" + statement + "10 12;" + statement + "11 11;");
            for (int round = 1; round <= 14; round++) {
                CHECKS.due(statement + "several", met.isUsable(0, round), round < 5 || round == 9 || round > 12);
            }
        }
        NewsExchange last = Texts.exchange("line 0 1 both 1;" + "broken 0 50 60;".repeat(11) + "broken 0 3 3;" + "away 0 50 60;".repeat(11) + "away 1 4 4;");
        for (int round = 1; round <= 6; round++) {
            CHECKS.due("the twelfth statement", last.isUsable(0, round), round != 3 && round != 4);
        }
    }

    private static void promise7Persons() {
        NewsExchange x = Texts.exchange("people 10;line 0 9 both 1;line 9 0 forth 1;line 8 1 both 1;away 9 5 5;away 0 6 6;away 2 7 7;broken 1 8 8;");
        boolean[][] due = {{true, false, false, true, true}, {true, false, false, true, false}, {true, true, true, true, true}};
        for (int line = 0; line < 3; line++) {
            for (int round = 4; round <= 8; round++) {
                CHECKS.due("line " + line + " in round " + round, x.isUsable(line, round), due[line][round - 4]);
            }
        }
    }

    private static void promise7Cut() {
        NewsExchange x = Texts.exchange("line 0 1 both 1;line 0 1 both 1;");
        x.cut(0);
        for (int round : new int[] {1, 9999}) {
            CHECKS.due("cut", x.isUsable(0, round), false);
            CHECKS.due("not cut", x.isUsable(1, round), true);
        }
        x.mend(0);
        CHECKS.due("mended", x.isUsable(0, 1), true);
        x.arrange(1);
        CHECKS.due("beside an arranged one", x.isUsable(0, 1), true);
        CHECKS.due("the arranged one", x.isUsable(1, 1), true);
    }

    private static void promise8Place() {
        NewsExchange none = new NewsExchange();
        for (int k : new int[] {MIN, -1, 0, 1, MAX}) {
            CHECKS.due("no lines", none.cheapestLine(k), NewsExchange.NONE);
        }
        NewsExchange one = Texts.exchange("line 0 1 both 999;");
        for (int k : new int[] {MIN, -1, 0, 1, MAX}) {
            CHECKS.due("one line", one.cheapestLine(k), k == 0 ? 0 : NewsExchange.NONE);
        }
        StringBuilder text = new StringBuilder();
        for (int line = 0; line < 24; line++) {
            text.append("line 0 1 both ").append(line == 0 ? 999 : line == 23 ? 0 : 24 - line).append(";");
        }
        NewsExchange x = Texts.exchange(text.toString());
        for (int k = -2; k <= 26; k++) {
            CHECKS.due("24 lines, place " + k, x.cheapestLine(k), k < 0 || k > 23 ? NewsExchange.NONE : 23 - k);
        }
    }

    private static void promise8SameCost() {
        NewsExchange x = full();
        for (int k = 0; k < 24; k++) {
            CHECKS.due("by number", x.cheapestLine(k), k);
        }
        x.cut(0);
        x.arrange(1);
        CHECKS.due("cut", x.cheapestLine(0), 0);
        CHECKS.due("arranged", x.cheapestLine(1), 1);
    }

    private static void promise9And10Bounds() {
        for (int people = 2; people <= 10; people++) {
            NewsExchange x = Texts.exchange("people " + people + ";");
            for (int number : new int[] {MIN, -1, people, people + 1, 10, 11, 32, MAX}) {
                CHECKS.dueNoPlace("known(" + number + ") of " + people, () -> x.known(number));
                CHECKS.dueNoPlace("knowers(" + number + ") of " + people, () -> x.knowers(number));
                CHECKS.dueNoPlace("partner(" + number + ") of " + people, () -> x.partner(number));
            }
            for (int number = 0; number < people; number++) {
                CHECKS.due("known at first", x.known(number), 1 << number);
                CHECKS.due("knowers at first", x.knowers(number), 1 << number);
                CHECKS.due("partner at first", x.partner(number), NewsExchange.NONE);
            }
        }
    }

    private static void promise9And10All() {
        NewsExchange x = Texts.exchange("people 10;");
        tellAll(x);
        for (int number = 0; number < 10; number++) {
            CHECKS.due("knows all", x.known(number), 1023);
            CHECKS.due("known to all", x.knowers(number), 1023);
        }
    }

    private static void promise11Missing() {
        for (int people = 2; people <= 10; people++) {
            NewsExchange x = Texts.exchange("people " + people + ";");
            CHECKS.due("missing at first", x.missing(), people * (people - 1));
            x.tell(0, people - 1);
            CHECKS.due("one less", x.missing(), people * (people - 1) - 1);
            x.undo();
            tellAll(x);
            CHECKS.due("nothing missing", x.missing(), 0);
            x.undo();
            CHECKS.due("one missing", x.missing(), 1);
        }
    }

    private static void promise12Partner() {
        NewsExchange x = Texts.exchange("people 10;line 0 9 both 1;line 8 1 forth 1;line 0 2 both 1;");
        x.arrange(0);
        x.arrange(1);
        int[] due = {9, 8, -1, -1, -1, -1, -1, -1, 1, 0};
        for (int person = 0; person < 10; person++) {
            CHECKS.due("partner of " + person, x.partner(person), due[person]);
        }
        x.takeBack(0);
        CHECKS.due("taken back", x.partner(0), NewsExchange.NONE);
        CHECKS.due("taken back", x.partner(9), NewsExchange.NONE);
        x.cut(1);
        CHECKS.due("cut", x.partner(8), NewsExchange.NONE);
        x.arrange(2);
        CHECKS.due("the other line", x.partner(0), 2);
        x.ring();
        CHECKS.due("made", x.partner(0), NewsExchange.NONE);
    }

    private static void promise13Arranged() {
        CHECKS.due("nothing", new NewsExchange().arranged(), 0);
        NewsExchange x = full();
        for (int line = 23; line > 18; line--) {
            x.arrange(line);
        }
        CHECKS.due("the greatest", x.arranged(), 31 << 19);
        x.cut(23);
        CHECKS.due("cut", x.arranged(), 15 << 19);
        x.takeBack(19);
        CHECKS.due("taken back", x.arranged(), 7 << 20);
        x.ring();
        CHECKS.due("made", x.arranged(), 0);
    }

    private static void promise14Gain() {
        CHECKS.due("no lines", new NewsExchange().gain(), 0);
        NewsExchange x = full();
        CHECKS.due("nothing arranged", x.gain(), 0);
        for (int person = 0; person < 10; person++) {
            for (int piece = person % 2; piece < 10; piece += 2) {
                if (piece != person) {
                    x.tell(person, piece);
                }
            }
        }
        for (int line = 0; line < 5; line++) {
            x.arrange(line);
        }
        CHECKS.due("the greatest", x.gain(), 50);
        CHECKS.due("made", x.ring(), 50);
        CHECKS.due("nothing is missing", x.missing(), 0);
        x.arrange(0);
        CHECKS.due("nothing to gain", x.gain(), 0);
    }

    private static void promise15Round() {
        for (NewsExchange x : new NewsExchange[] {new NewsExchange(), busy()}) {
            for (int round : new int[] {MIN, -2, -1, 10000, 10001, MAX}) {
                CHECKS.dueBadArgument("spent(" + round + ")", () -> x.spent(round));
            }
        }
        for (int round : new int[] {0, 1, 9998, 9999}) {
            CHECKS.due("no rounds", new NewsExchange().spent(round), 0);
            CHECKS.due("one round", busy().spent(round), round == 0 ? 0 : 3);
        }
    }

    private static void promise15Spent() {
        NewsExchange x = full();
        for (int round = 1; round <= 40; round++) {
            for (int line = 0; line < 5; line++) {
                x.arrange(line);
            }
            x.ring();
        }
        for (int round = 0; round <= 45; round++) {
            CHECKS.due("the dearest rounds", x.spent(round), 4995 * Math.min(40, round));
        }
    }

    private static void best(String name, NewsExchange x, int lines, int gain, int cost) {
        CHECKS.due(name + ": best(0)", x.best(0), lines);
        CHECKS.due(name + ": best(1)", x.best(1), gain);
        CHECKS.due(name + ": best(2)", x.best(2), cost);
    }

    private static void promise16What() {
        for (NewsExchange x : new NewsExchange[] {new NewsExchange(), busy(), full()}) {
            for (int what : new int[] {MIN, -1, 3, 4, MAX}) {
                CHECKS.dueBadArgument("best(" + what + ")", () -> x.best(what));
            }
        }
        // line 3 brings 3 pieces by itself, lines 0 and 1 bring as many for more
        best("all three", busy(), 8, 3, 4);
    }

    /** Without anything to gain the best set is the empty one: it costs least and is the smallest. */
    private static void promise16Nothing() {
        best("no lines", new NewsExchange(), 0, 0, 0);
        NewsExchange x = Texts.exchange("people 2;line 0 1 both 0;");
        x.tell(0, 1);
        best("one piece", x, 1, 1, 0);
        x.tell(1, 0);
        best("no gain, no cost", x, 0, 0, 0);
        NewsExchange y = Texts.exchange("line 0 1 both 0;line 2 3 both 0;");
        y.tell(0, 1);
        y.tell(1, 0);
        best("only the line that gains", y, 2, 2, 0);
        y.cut(1);
        best("cut", y, 0, 0, 0);
    }

    private static void promise16Ties() {
        best("gain ahead of cost", Texts.exchange("line 0 1 forth 0;line 0 1 both 999;"), 2, 2, 999);
        best("gain ahead of bits", Texts.exchange("line 0 1 forth 5;line 0 1 both 5;"), 2, 2, 5);
        best("cost ahead of bits", Texts.exchange("line 0 1 both 1;line 0 1 both 0;"), 2, 2, 0);
        best("bits at last", Texts.exchange("line 0 1 both 1;line 1 0 both 1;"), 1, 2, 1);
        // 9 = lines 0 and 3, 6 = lines 1 and 2: the number as bits, not the least line
        best("as a number", Texts.exchange("line 0 1 both 1;line 0 2 both 1;line 1 3 both 1;line 2 3 both 1;"), 6, 4, 2);
        best("two calls for one", Texts.exchange("people 3;line 0 1 both 2;line 1 2 both 1;line 0 2 both 1;"), 2, 2, 1);
        best("dearest", full(), 31, 10, 4995);
        String same = "line 0 1 both 0;".repeat(22);
        best("lines 0 and 23", Texts.exchange(same + "line 2 3 both 999;line 2 3 both 998;"), 1 | 1 << 23, 4, 998);
    }

    private static void promise16NextRound() {
        NewsExchange x = Texts.exchange("people 2;line 0 1 both 9;line 0 1 both 8;line 1 0 both 7;line 0 1 forth 0;broken 2 1 1;broken 1 2 3;away 0 3 3;");
        best("round 1", x, 2, 2, 8);
        x.ring();
        best("round 2", x, 4, 2, 7);
        x.ring();
        best("round 3", x, 0, 0, 0);
        x.ring();
        best("round 4", x, 4, 2, 7);
        x.arrange(0);
        best("whatever is arranged", x, 4, 2, 7);
        x.cut(2);
        best("cut", x, 2, 2, 8);
    }

    private static void plan(String name, NewsExchange x, int rounds, int calls, int cost, int missing) {
        CHECKS.due(name + ": plan(0)", x.plan(0), rounds);
        CHECKS.due(name + ": plan(1)", x.plan(1), calls);
        CHECKS.due(name + ": plan(2)", x.plan(2), cost);
        CHECKS.due(name + ": plan(3)", x.plan(3), missing);
    }

    private static void promise17What() {
        for (NewsExchange x : new NewsExchange[] {new NewsExchange(), busy(), full()}) {
            for (int what : new int[] {MIN, -1, 4, 5, MAX}) {
                CHECKS.dueBadArgument("plan(" + what + ")", () -> x.plan(what));
            }
        }
    }

    private static void promise17Nothing() {
        plan("no lines", new NewsExchange(), -1, 0, 0, 12);
        plan("ten without lines", Texts.exchange("people 10;"), -1, 0, 0, 90);
        NewsExchange x = Texts.exchange("people 10;line 0 1 both 0;");
        tellAll(x);
        plan("everybody knows everything", x, 0, 0, 0, 0);
        x.undo();
        plan("one piece is missing, no line brings it", x, -1, 0, 0, 1);
        NewsExchange y = Texts.exchange("people 2;line 0 1 both 5;");
        y.tell(0, 1);
        plan("one piece is missing", y, 1, 1, 5, 0);
    }

    private static void promise17FortyRounds() {
        String line = "people 2;line 0 1 both 7;";
        plan("round 39", Texts.exchange(line + "broken 0 1 38;"), 39, 1, 7, 0);
        plan("round 40", Texts.exchange(line + "broken 0 1 39;"), 40, 1, 7, 0);
        plan("round 41", Texts.exchange(line + "broken 0 1 40;"), -1, 0, 0, 2);
        plan("away in round 40", Texts.exchange(line + "broken 0 1 39;away 0 40 40;"), -1, 0, 0, 2);
        NewsExchange x = Texts.exchange(line + "broken 0 1 41;");
        x.ring();
        plan("41 rounds from now", x, -1, 0, 0, 2);
        x.ring();
        plan("40 rounds from now", x, 40, 1, 7, 0);
        String three = "people 3;line 0 1 both 7;line 1 2 both 1;";
        plan("the last calls in round 40", Texts.exchange(three + "broken 1 1 38;"), 40, 3, 15, 0);
        plan("a call is left over", Texts.exchange(three + "broken 1 1 39;"), -1, 2, 8, 1);
    }

    /** A round whose best set has the gain 0 is planned without calls, also if a call cost nothing. */
    private static void promise17GainOfNothing() {
        plan("waiting", Texts.exchange("people 3;line 0 1 both 0;line 1 2 both 1;broken 1 2 9;broken 1 1 1;"), 11, 3, 1, 0);
        plan("in vain", Texts.exchange("people 3;line 0 1 both 0;"), -1, 1, 0, 4);
    }

    private static void promise17ManyRounds() {
        StringBuilder row = new StringBuilder("people 10;");
        for (int person = 0; person < 9; person++) {
            row.append("line ").append(person).append(" ").append(person + 1).append(" both 1;");
        }
        NewsExchange x = Texts.exchange(row.toString());
        int rounds = x.plan(0);
        int calls = x.plan(1);
        for (int round = 1; round <= rounds; round++) {
            CHECKS.due("more is missing", x.missing() > 0, true);
            x.arrangeBest();
            x.ring();
        }
        CHECKS.due("the plan when it is made", x.missing(), 0);
        CHECKS.due("its calls", x.size(3), calls);
        CHECKS.due("its cost", x.spent(9999), calls);
    }

    private static void fewest(String name, NewsExchange x, int rounds) {
        for (int limit = 0; limit <= 4; limit++) {
            CHECKS.due(name + ": fewest(" + limit + ")", x.fewest(limit), rounds >= 0 && rounds <= limit ? rounds : -1);
        }
    }

    private static void promise18Limit() {
        for (NewsExchange x : new NewsExchange[] {new NewsExchange(), busy(), full()}) {
            for (int limit : new int[] {MIN, -2, -1, 5, 6, MAX}) {
                CHECKS.dueBadArgument("fewest(" + limit + "), checked first", () -> x.fewest(limit));
            }
        }
        fewest("no lines", new NewsExchange(), -1);
    }

    private static void promise18People() {
        for (int people = 2; people <= 10; people++) {
            NewsExchange x = Texts.exchange("people " + people + ";");
            NewsExchange y = Texts.exchange("people " + people + ";");
            tellAll(y);
            for (int limit = 0; limit <= 4; limit++) {
                int most = limit;
                if (people <= 6) {
                    CHECKS.due("no lines", x.fewest(limit), -1);
                    CHECKS.due("no rounds are needed", y.fewest(limit), 0);
                } else {
                    CHECKS.dueBadState(people + " people", () -> x.fewest(most));
                    CHECKS.dueBadState(people + " people who know everything", () -> y.fewest(most));
                }
            }
        }
    }

    private static void promise18Rounds() {
        fewest("1 round", Texts.exchange("people 2;line 0 1 both 3;"), 1);
        fewest("2 rounds", Texts.exchange("line 0 1 both 3;line 2 3 both 4;line 0 2 both 5;line 1 3 both 6;"), 2);
        fewest("3 rounds", Texts.exchange("people 3;line 0 1 both 3;line 1 2 both 4;"), 3);
        fewest("4 rounds", Texts.exchange("people 5;line 0 1 both 1;line 1 2 both 1;line 2 3 both 1;line 3 4 both 1;line 4 0 both 1;"), 4);
        // both ends' pieces cannot pass the middle in the same round: five rounds, by letters four
        String row = "people 5;line 0 1 both 1;line 1 2 both 1;line 2 3 both 1;line 3 4 both 1;";
        fewest("a row of 5", Texts.exchange(row), -1);
        NewsExchange told = Texts.exchange(row);
        told.tell(4, 0);
        told.tell(0, 4);
        fewest("a row of 5 with letters", told, 4);
        NewsExchange six = Texts.exchange("people 6;line 0 1 both 1;line 2 3 both 1;line 4 5 both 1;line 0 2 both 1;line 3 4 both 1;line 1 5 both 1;");
        fewest("a ring of 6", six, 3);
    }

    private static void promise18Broken() {
        String line = "people 2;line 0 1 both 7;";
        fewest("round 4", Texts.exchange(line + "broken 0 1 3;"), 4);
        fewest("round 5", Texts.exchange(line + "broken 0 1 4;"), -1);
        fewest("away till round 4", Texts.exchange(line + "away 1 2 4;away 0 1 1;"), -1);
        NewsExchange x = Texts.exchange(line + "away 1 1 5;");
        x.ring();
        fewest("five rounds from now", x, -1);
        x.ring();
        fewest("four rounds from now", x, 4);
        x.cut(0);
        fewest("cut", x, -1);
        NewsExchange forth = Texts.exchange("people 2;line 0 1 forth 7;line 1 0 forth 7;");
        fewest("one way each", forth, 2);
        forth.cut(0);
        fewest("one way is cut", forth, -1);
        forth.tell(1, 0);
        fewest("the other is enough then", forth, 1);
    }

    private static void promise19Doublings() {
        int[] due = {0, 0, 1, 2, 2, 3, 3, 3, 3, 4, 4};
        for (int people = 2; people <= 10; people++) {
            NewsExchange x = Texts.exchange("people " + people + ";");
            CHECKS.due("one knower of " + people, x.doublings(), due[people]);
            tellAll(x);
            CHECKS.due("all know", x.doublings(), 0);
            x.undo();
            CHECKS.due("one piece is missing to one", x.doublings(), 1);
        }
        NewsExchange x = Texts.exchange("people 10;");
        int[] byKnowers = {0, 4, 3, 2, 2, 1, 1, 1, 1, 1, 0};
        for (int knowers = 1; knowers <= 10; knowers++) {
            CHECKS.due(knowers + " knowers of 10", x.doublings(), byKnowers[knowers]);
            for (int piece = 0; piece < 10 && knowers < 10; piece++) {
                x.tell((piece + knowers) % 10, piece);
                CHECKS.due("the greatest over all pieces", x.doublings(), byKnowers[piece < 9 ? knowers : knowers + 1]);
            }
        }
    }

    private static void promise20Persons() {
        for (int people = 2; people <= 10; people++) {
            NewsExchange x = Texts.exchange("people " + people + ";line 0 " + (people - 1) + " both 1;");
            for (int number : new int[] {MIN, -1, people, 10, 32, MAX}) {
                CHECKS.dueNoPlace("soonest, person " + number, () -> x.soonest(number, 0));
                CHECKS.dueNoPlace("soonest, piece " + number, () -> x.soonest(0, number));
                CHECKS.dueNoPlace("soonest, both " + number, () -> x.soonest(number, number));
            }
            CHECKS.due("knows it", x.soonest(people - 1, people - 1), 0);
            CHECKS.due("the greatest person", x.soonest(people - 1, 0), 1);
            CHECKS.due("the greatest piece", x.soonest(0, people - 1), 1);
        }
    }

    private static void promise20SixtyRounds() {
        CHECKS.due("no lines", new NewsExchange().soonest(0, 1), NewsExchange.NONE);
        for (String kept : new String[] {"broken 0 1 ", "away 0 1 ", "away 1 1 "}) {
            for (int last : new int[] {1, 57, 58, 59, 60, 61, 999}) {
                NewsExchange x = Texts.exchange("line 0 1 both 1;" + kept + last + ";");
                CHECKS.due(kept + last, x.soonest(1, 0), last < 60 ? last + 1 : NewsExchange.NONE);
                x.ring();
                CHECKS.due(kept + last + ", a round later", x.soonest(1, 0), last < 61 ? last : NewsExchange.NONE);
                x.tell(1, 0);
                CHECKS.due("told", x.soonest(1, 0), 0);
            }
        }
        NewsExchange row = Texts.exchange("people 10;line 8 9 both 1;line 7 8 both 1;line 6 7 both 1;line 5 6 both 1;line 4 5 both 1;"
            + "line 3 4 both 1;line 2 3 both 1;line 1 2 both 1;line 0 1 both 1;broken 0 2 99;broken 8 1 59;broken 7 9 99;");
        for (int person = 0; person < 10; person++) {
            CHECKS.due("one line a round, person " + person, row.soonest(person, 9), person == 0 ? 60 : 9 - person);
        }
        row.ring();
        CHECKS.due("the first line is broken now", row.soonest(8, 9), NewsExchange.NONE);
    }

    private static void promise21Persons() {
        for (int people = 2; people <= 10; people++) {
            NewsExchange x = Texts.exchange("people " + people + ";line 0 " + (people - 1) + " both 8;");
            for (int number : new int[] {MIN, -1, people, 10, 32, MAX}) {
                CHECKS.dueNoPlace("cheapest, person " + number, () -> x.cheapest(number, 0));
                CHECKS.dueNoPlace("cheapest, piece " + number, () -> x.cheapest(0, number));
                CHECKS.dueNoPlace("cheapest, both " + number, () -> x.cheapest(number, number));
            }
            CHECKS.due("knows it", x.cheapest(people - 1, people - 1), 0);
            CHECKS.due("the greatest person", x.cheapest(people - 1, 0), 8);
            CHECKS.due("the greatest piece", x.cheapest(0, people - 1), 8);
        }
    }

    private static void promise21Costs() {
        CHECKS.due("no lines", new NewsExchange().cheapest(0, 1), NewsExchange.NONE);
        StringBuilder row = new StringBuilder("people 10;");
        for (int person = 9; person > 0; person--) {
            row.append("line ").append(person).append(" ").append(person - 1).append(" forth 999;");
        }
        NewsExchange x = Texts.exchange(row + "broken 0 1 999;away 5 1 999;");
        for (int person = 0; person < 10; person++) {
            CHECKS.due("the longest row", x.cheapest(person, 9), 999 * (9 - person));
            CHECKS.due("forth only", x.cheapest(9, person), person == 9 ? 0 : NewsExchange.NONE);
        }
        x.cut(8);
        CHECKS.due("cut at its end", x.cheapest(0, 9), NewsExchange.NONE);
        x.mend(8);
        CHECKS.due("mended", x.cheapest(0, 9), 8991);
        x.tell(1, 9);
        CHECKS.due("someone nearer", x.cheapest(0, 9), 999);
        x.tell(0, 9);
        CHECKS.due("told", x.cheapest(0, 9), 0);
        NewsExchange free = Texts.exchange("people 3;line 0 1 both 0;line 1 2 both 0;line 0 2 both 1;");
        CHECKS.due("a row that costs nothing", free.cheapest(2, 0), 0);
        free.cut(0);
        CHECKS.due("the dear line", free.cheapest(2, 0), 1);
    }

    private static void promise22Vital() {
        CHECKS.due("no lines", new NewsExchange().vital(), 0);
        StringBuilder tree = new StringBuilder("people 10;");
        for (int person = 1; person < 10; person++) {
            tree.append("line 0 ").append(person).append(" both 1;");
        }
        NewsExchange star = Texts.exchange(tree + "broken 0 1 999;away 0 1 999;");
        CHECKS.due("each line of a star", star.vital(), 511);
        star.cut(8);
        CHECKS.due("not what is cut", star.vital(), 255);
        NewsExchange all = Texts.exchange("people 10;line 0 1 both 1;");
        tellAll(all);
        CHECKS.due("everybody knows everything", all.vital(), 0);
        all.undo();
        CHECKS.due("person 9 cannot by any line", all.vital(), 0);
        NewsExchange twice = full();
        CHECKS.due("several lines of the same persons", twice.vital(), 0);
        for (int line = 0; line < 20; line++) {
            twice.cut(line);
        }
        CHECKS.due("the last one of each", twice.vital(), 15 << 20);
        NewsExchange forth = Texts.exchange("people 2;line 0 1 forth 1;line 1 0 forth 1;line 0 1 forth 1;");
        CHECKS.due("only one way", forth.vital(), 2);
        forth.tell(0, 1);
        CHECKS.due("who knows it needs no line", forth.vital(), 0);
        String last = "line 0 1 both 1;".repeat(23);
        CHECKS.due("line 23", Texts.exchange(last + "line 0 2 both 1;").vital(), 1 << 23);
    }
}
