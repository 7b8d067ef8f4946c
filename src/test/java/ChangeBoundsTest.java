import java.util.function.Supplier;

/**
 * The boundary cases of promises 23 to 32 and of what the document says of rounds and changes: for
 * each sentence the least and the greatest that is allowed, the first ones beyond, nothing,
 * everything full, and what is refused and leaves all as it was.
 */
public final class ChangeBoundsTest {
    private static final Checks CHECKS = new Checks("ChangeBoundsTest");
    private static final int MIN = Integer.MIN_VALUE;
    private static final int MAX = Integer.MAX_VALUE;

    private static final String SQUARE = "people 4;line 0 1 both 3;line 2 3 both 4;line 0 2 both 5;line 1 3 forth 6;line 3 0 both 0;"
        + "broken 4 1 1;broken 2 2 3;away 3 3 3;";

    public static void main(String[] args) {
        noSuchLine();
        promise23Refused();
        promise23CommonPerson();
        promise23Rounds();
        promise23Full();
        promise23Returns();
        promise24TakeBack();
        promise25ArrangeBest();
        promise26Ring();
        promise26LastRound();
        promise27Cut();
        promise28Mend();
        promise29Persons();
        promise29Refused();
        promise29Full();
        arrangedIsEmptiedByRing();
        cutIsNotArranged();
        promise30Nothing();
        promise30EachChange();
        promise30OnlyChanges();
        promise30Latest10();
        promise30WrapsAround();
        promise30Counts();
        promise31Slots();
        promise31Earlier();
        promise31HoldsEverything();
        promise32Slots();
        promise32StaysStored();
        promise32ClearsHistory();
        parseAndSlots();
        all512Calls();
        CHECKS.end();
    }

    private static NewsExchange square() {
        return Texts.exchange(SQUARE);
    }

    /** Round 2, line 2 cut (and broken), line 0 arranged, something told, slot 1 filled. */
    private static NewsExchange busy() {
        NewsExchange x = square();
        x.arrange(1);
        x.ring();
        x.saveSnapshot(1);
        x.cut(2);
        x.arrange(0);
        x.tell(0, 3);
        return x;
    }

    private static Twins twins(Supplier<NewsExchange> make) {
        return new Twins(CHECKS, make);
    }

    private static NewsExchange full() {
        StringBuilder text = new StringBuilder("people 10;");
        for (int line = 0; line < 24; line++) {
            int person = 2 * (line % 5);
            text.append("line").append(person).append(" ").append(person + 1).append("both999;");
        }
        return Texts.exchange(text.toString());
    }

    private static void noSuchLine() {
        NewsExchange none = new NewsExchange();
        NewsExchange five = busy();
        NewsExchange full = full();
        for (int line : new int[] {MIN, -1, 0, 1, 24, MAX}) {
            dueNoLine(none, line);
        }
        for (int line : new int[] {MIN, -33, -32, -1, 5, 6, 24, 31, 32, 33, 36, MAX}) {
            dueNoLine(five, line);
        }
        for (int line : new int[] {MIN, -1, 24, 25, 31, 32, MAX}) {
            dueNoLine(full, line);
        }
        Twins twins = twins(ChangeBoundsTest::busy);
        twins.noPlace("arrange(5)", x -> x.arrange(5));
        twins.noPlace("arrange(-1)", x -> x.arrange(-1));
        twins.noPlace("takeBack(5)", x -> x.takeBack(5));
        twins.noPlace("takeBack(-1)", x -> x.takeBack(-1));
        twins.noPlace("cut(5)", x -> x.cut(5) ? 1 : 0);
        twins.noPlace("cut(-1)", x -> x.cut(-1) ? 1 : 0);
        twins.noPlace("mend(5)", x -> x.mend(5));
        twins.noPlace("mend(-1)", x -> x.mend(-1));
    }

    private static void dueNoLine(NewsExchange x, int line) {
        CHECKS.dueNoPlace("arrange(" + line + ")", () -> x.arrange(line));
        CHECKS.dueNoPlace("takeBack(" + line + ")", () -> x.takeBack(line));
        CHECKS.dueNoPlace("cut(" + line + ")", () -> x.cut(line) ? 1 : 0);
        CHECKS.dueNoPlace("mend(" + line + ")", () -> x.mend(line));
    }

    private static void promise23Refused() {
        Twins twins = twins(ChangeBoundsTest::busy);
        twins.badState("arranged already", x -> x.arrange(0));
        twins.badState("cut", x -> x.arrange(2));
        twins.badState("the second person of it is in a call", x -> x.arrange(4));
        twins.badState("the first person of it is in a call", x -> x.arrange(3));
        twins(ChangeBoundsTest::square).badState("broken", x -> x.arrange(4));
        twins(() -> {
            NewsExchange x = square();
            x.ring();
            x.ring();
            return x;
        }).badState("away", x -> x.arrange(1));
    }

    /** No person is of two lines, be it the first or the second of either. */
    private static void promise23CommonPerson() {
        for (String other : new String[] {"0 2", "2 0", "1 2", "2 1", "0 1", "1 0"}) {
            for (String kind : new String[] {"both", "forth"}) {
                NewsExchange x = Texts.exchange("line 0 1 both 1;line " + other + " " + kind + " 1;line 2 3 both 1;");
                x.arrange(0);
                CHECKS.dueBadState("line " + other, () -> x.arrange(1));
                CHECKS.due("what is arranged", x.arranged(), 1);
                CHECKS.due("a line of others", x.arrange(2), 4);
                x.takeBack(0);
                x.takeBack(2);
                CHECKS.due("after both are taken back", x.arrange(1) > 0, true);
                CHECKS.dueBadState("the other way round", () -> x.arrange(0));
            }
        }
    }

    /** The next round is that behind the rounds that were made, from first to last, both included. */
    private static void promise23Rounds() {
        for (String statement : new String[] {"broken 0 ", "away 0 ", "away 1 "}) {
            NewsExchange x = Texts.exchange("line 0 1 both 1;line 2 3 both 1;" + statement + "2 4;");
            for (int round = 1; round <= 6; round++) {
                if (round < 2 || round > 4) {
                    CHECKS.due(statement + "in round " + round, x.arrange(0) >= 0, true);
                } else {
                    CHECKS.dueBadState(statement + "in round " + round, () -> x.arrange(0));
                }
                CHECKS.due("the other line in round " + round, x.arrange(1) >= 0, true);
                x.ring();
            }
        }
    }

    private static void promise23Full() {
        NewsExchange x = full();
        for (int line = 0; line < 5; line++) {
            CHECKS.due("call " + (line + 1), x.arrange(line), 2 * (line + 1));
        }
        for (int line = 0; line < 24; line++) {
            int more = line;
            CHECKS.dueBadState("everybody is in a call", () -> x.arrange(more));
        }
        CHECKS.due("arranged", x.arranged(), 31);
        NewsExchange one = Texts.exchange("line 0 1 both 1;".repeat(23) + "line 2 3 forth 1;");
        CHECKS.due("the greatest line", one.arrange(23), 1);
        CHECKS.due("the least line", one.arrange(0), 3);
        CHECKS.due("as bits", one.arranged(), 1 | 1 << 23);
    }

    private static void promise23Returns() {
        NewsExchange x = Texts.exchange("people 2;line 0 1 both 1;line 0 1 forth 1;");
        CHECKS.due("both", x.arrange(0), 2);
        x.takeBack(0);
        CHECKS.due("forth", x.arrange(1), 1);
        x.takeBack(1);
        x.tell(1, 0);
        CHECKS.due("forth, known", x.arrange(1), 0);
        x.takeBack(1);
        CHECKS.due("both, one known", x.arrange(0), 1);
        x.takeBack(0);
        x.tell(0, 1);
        CHECKS.due("both, both known", x.arrange(0), 0);
    }

    private static void promise24TakeBack() {
        Twins twins = twins(ChangeBoundsTest::busy);
        twins.badState("not arranged", x -> x.takeBack(1));
        twins.badState("cut", x -> x.takeBack(2));
        twins(ChangeBoundsTest::square).badState("nothing arranged", x -> x.takeBack(0));
        NewsExchange x = full();
        for (int line = 19; line < 24; line++) {
            x.arrange(line);
        }
        for (int line = 19; line < 24; line++) {
            CHECKS.due("one call less", x.takeBack(line), 2 * (23 - line));
        }
        CHECKS.due("nothing arranged", x.arranged(), 0);
        CHECKS.dueBadState("taken back already", () -> x.takeBack(23));
        CHECKS.due("arranged again", x.arrange(23), 2);
        x.ring();
        CHECKS.dueBadState("made already", () -> x.takeBack(23));
    }

    private static void promise25ArrangeBest() {
        NewsExchange none = new NewsExchange();
        CHECKS.due("no lines", none.arrangeBest(), 0);
        CHECKS.due("it succeeded all the same", none.undo(), 0);
        NewsExchange x = full();
        CHECKS.due("everybody", x.arrangeBest(), 10);
        CHECKS.due("arranged", x.arranged(), 31);
        CHECKS.due("once more", x.arrangeBest(), 10);
        CHECKS.due("arranged", x.arranged(), 31);
        x.ring();
        CHECKS.due("nothing to gain", x.arrangeBest(), 0);
        CHECKS.due("so no calls", x.arranged(), 0);
        x.arrange(7);
        CHECKS.due("in place of what is arranged", x.arrangeBest(), 0);
        CHECKS.due("no calls", x.arranged(), 0);
        CHECKS.due("undo", x.undo(), 5);
        CHECKS.due("what was arranged", x.arranged(), 1 << 7);
        NewsExchange y = square();
        for (int round = 1; round <= 4; round++) {
            int best = y.best(0);
            int gain = y.best(1);
            int cost = y.best(2);
            int spent = y.spent(9999);
            CHECKS.due("its gain", y.arrangeBest(), gain);
            CHECKS.due("as best tells", y.arranged(), best);
            CHECKS.due("whatever is arranged", y.best(0), best);
            CHECKS.due("ring", y.ring(), gain);
            CHECKS.due("its cost", y.spent(9999) - spent, cost);
        }
    }

    private static void promise26Ring() {
        NewsExchange none = new NewsExchange();
        CHECKS.due("perhaps none", none.ring(), 0);
        CHECKS.due("rounds", none.size(2), 1);
        CHECKS.due("calls", none.size(3), 0);
        CHECKS.due("missing", none.missing(), 12);
        NewsExchange x = full();
        x.arrangeBest();
        CHECKS.due("five calls", x.ring(), 10);
        CHECKS.due("calls", x.size(3), 5);
        x.arrange(0);
        CHECKS.due("a call without gain is made", x.ring(), 0);
        CHECKS.due("calls", x.size(3), 6);
        CHECKS.due("and paid", x.spent(2), 6 * 999);
        NewsExchange y = Texts.exchange("people 4;line 0 1 both 1;line 1 2 both 1;line 2 3 both 1;");
        y.arrange(0);
        y.arrange(2);
        y.ring();
        y.arrange(1);
        CHECKS.due("the middle", y.ring(), 4);
        int[] due = {3, 15, 15, 12};
        for (int person = 0; person < 4; person++) {
            CHECKS.due("known", y.known(person), due[person]);
        }
    }

    /** More calls than the document promises anything about, but it tells the limit. */
    private static void promise26LastRound() {
        NewsExchange x = full();
        for (int round = 1; round <= 9998; round++) {
            x.ring();
        }
        x.arrangeBest();
        CHECKS.due("round 9999", x.ring(), 10);
        CHECKS.due("rounds", x.size(2), 9999);
        CHECKS.due("spent before it", x.spent(9998), 0);
        CHECKS.due("spent", x.spent(9999), 4995);
        x.arrange(3);
        CHECKS.dueBadState("round 10000", x::ring);
        CHECKS.due("rounds", x.size(2), 9999);
        CHECKS.due("still arranged", x.arranged(), 8);
        CHECKS.due("no change more", x.undo(), 9);
        CHECKS.due("not arranged", x.arranged(), 0);
    }

    private static void promise27Cut() {
        Twins twins = twins(ChangeBoundsTest::busy);
        twins.badState("cut already", x -> x.cut(2) ? 1 : 0);
        NewsExchange x = full();
        x.arrange(0);
        x.arrange(23);
        for (int line = 0; line < 24; line++) {
            CHECKS.due("cut(" + line + ")", x.cut(line), line == 0 || line == 23);
            CHECKS.due("arranged", x.arranged(), line < 23 ? 1 << 23 : 0);
        }
        CHECKS.due("all are cut", x.size(5), 24);
        for (int line = 0; line < 24; line++) {
            int again = line;
            CHECKS.dueBadState("cut again", () -> x.cut(again) ? 1 : 0);
            CHECKS.dueBadState("arrange", () -> x.arrange(again));
        }
        CHECKS.due("best", x.best(1), 0);
        CHECKS.due("vital", x.vital(), 0);
        NewsExchange broken = square();
        CHECKS.due("a line that is broken can be cut", broken.cut(4), false);
    }

    private static void promise28Mend() {
        Twins twins = twins(ChangeBoundsTest::busy);
        twins.badState("not cut, arranged", x -> x.mend(0));
        twins.badState("not cut", x -> x.mend(4));
        twins(ChangeBoundsTest::square).badState("none is cut", x -> x.mend(0));
        NewsExchange x = full();
        for (int line = 0; line < 24; line++) {
            x.cut(line);
        }
        for (int line = 23; line >= 0; line--) {
            int mended = line;
            CHECKS.due("lines that are cut then", x.mend(line), line);
            CHECKS.due("mended", x.line(line, 4), 0);
            CHECKS.dueBadState("mended already", () -> x.mend(mended));
        }
        CHECKS.due("cut again", x.cut(23), false);
        CHECKS.due("and mended", x.mend(23), 0);
    }

    private static void promise29Persons() {
        for (int people = 2; people <= 10; people++) {
            NewsExchange x = Texts.exchange("people " + people + ";");
            for (int number : new int[] {MIN, -1, people, people + 1, 10, 31, 32, MAX}) {
                CHECKS.dueNoPlace("person " + number, () -> x.tell(number, 0));
                CHECKS.dueNoPlace("piece " + number, () -> x.tell(0, number));
                CHECKS.dueNoPlace("both " + number + ", checked first", () -> x.tell(number, number));
            }
            CHECKS.due("greatest person", x.tell(people - 1, 0), 2);
            CHECKS.due("greatest piece", x.tell(0, people - 1), 2);
            CHECKS.due("missing", x.missing(), people * (people - 1) - 2);
        }
    }

    private static void promise29Refused() {
        Twins twins = twins(ChangeBoundsTest::busy);
        twins.badState("told already", x -> x.tell(0, 3));
        twins.badState("known by a call", x -> x.tell(2, 3));
        twins.badState("the own piece", x -> x.tell(1, 1));
        twins.noPlace("person 4", x -> x.tell(4, 0));
        twins.noPlace("person -1", x -> x.tell(-1, 0));
        twins.noPlace("piece 4", x -> x.tell(0, 4));
        twins.noPlace("piece -1", x -> x.tell(0, -1));
        for (int person = 0; person < 10; person++) {
            int own = person;
            CHECKS.dueBadState("own piece " + own, () -> Texts.exchange("people 10;").tell(own, own));
        }
    }

    private static void promise29Full() {
        NewsExchange x = Texts.exchange("people 10;");
        for (int person = 0; person < 10; person++) {
            int known = 1;
            for (int piece = 9; piece >= 0; piece--) {
                if (piece != person) {
                    known++;
                    CHECKS.due("pieces known then", x.tell(person, piece), known);
                }
            }
            for (int piece = 0; piece < 10; piece++) {
                int told = piece;
                int who = person;
                CHECKS.dueBadState("everything is known", () -> x.tell(who, told));
            }
        }
        CHECKS.due("rounds", x.size(2), 0);
        CHECKS.due("calls", x.size(3), 0);
        NewsExchange away = Texts.exchange("people 2;away 0 1 999;");
        CHECKS.due("a letter comes also to who is away", away.tell(0, 1), 2);
    }

    private static void arrangedIsEmptiedByRing() {
        NewsExchange x = square();
        x.arrange(0);
        x.arrange(1);
        x.ring();
        CHECKS.due("nothing", x.arranged(), 0);
        CHECKS.due("no call", x.size(4), 0);
        CHECKS.due("no gain", x.gain(), 0);
        for (int person = 0; person < 4; person++) {
            CHECKS.due("no partner", x.partner(person), NewsExchange.NONE);
        }
        CHECKS.due("both can be arranged again", x.arrange(0) + x.arrange(1), 0);
    }

    private static void cutIsNotArranged() {
        NewsExchange x = square();
        x.arrange(0);
        x.arrange(1);
        CHECKS.due("cut", x.cut(1), true);
        CHECKS.due("the other is", x.arranged(), 1);
        CHECKS.due("gain", x.gain(), 2);
        x.mend(1);
        CHECKS.due("not after mend", x.arranged(), 1);
        CHECKS.due("but it can be", x.arrange(1), 4);
        x.undo();
        x.undo();
        x.undo();
        CHECKS.due("arranged before the cut", x.arranged(), 3);
    }

    private static void promise30Nothing() {
        twins(NewsExchange::new).answering("a new object", NewsExchange.NONE, NewsExchange::undo);
        twins(ChangeBoundsTest::square).answering("after parse", NewsExchange.NONE, NewsExchange::undo);
        twins(() -> {
            NewsExchange x = busy();
            x.restoreSnapshot(1);
            return x;
        }).answering("after a restored snapshot", NewsExchange.NONE, NewsExchange::undo);
        twins(() -> {
            NewsExchange x = square();
            x.cut(0);
            x.undo();
            return x;
        }).answering("after all is undone", NewsExchange.NONE, NewsExchange::undo);
    }

    /** A change and its undo leave everything as it was, but for changes beyond the tenth. */
    private static void promise30EachChange() {
        String want = Twins.story(busy());
        Twins.Try[] changes = {x -> x.arrange(1), x -> x.takeBack(0), NewsExchange::arrangeBest, NewsExchange::ring,
            x -> x.cut(0) ? 1 : 0, x -> x.cut(1) ? 1 : 0, x -> x.mend(2), x -> x.tell(3, 0)};
        for (int i = 0; i < changes.length; i++) {
            NewsExchange x = busy();
            changes[i].on(x);
            CHECKS.due("changes before it", x.undo(), 5);
            CHECKS.due("change " + i + " is undone: same", Twins.story(x).equals(want), true);
        }
    }

    private static void promise30OnlyChanges() {
        NewsExchange x = square();
        x.tell(0, 1);
        x.saveSnapshot(0);
        x.best(0);
        x.plan(0);
        x.append(0, 0, 0, 0, 0);
        x.parse(20);
        CHECKS.dueBadState("refused", () -> x.tell(0, 1));
        CHECKS.dueBadState("refused", () -> x.restoreSnapshot(1));
        CHECKS.due("one change", x.undo(), 0);
        CHECKS.due("undone", x.known(0), 1);
        CHECKS.due("an undo is no change", x.undo(), NewsExchange.NONE);
        CHECKS.due("nothing happens", x.known(0), 1);
    }

    private static void promise30Latest10() {
        for (int changes = 0; changes <= 12; changes++) {
            NewsExchange x = new NewsExchange();
            for (int i = 0; i < changes; i++) {
                x.ring();
            }
            int left = Math.min(10, changes);
            while (left > 0) {
                left--;
                CHECKS.due(changes + " changes", x.undo(), left);
            }
            CHECKS.due(changes + " changes, no more", x.undo(), NewsExchange.NONE);
            CHECKS.due("rounds", x.size(2), Math.max(0, changes - 10));
        }
    }

    /** The row of the latest changes is used round and round, from any place and to any depth. */
    private static void promise30WrapsAround() {
        for (int before = 0; before <= 21; before++) {
            for (int undone = 1; undone <= 10; undone += 3) {
                NewsExchange x = new NewsExchange();
                int rounds = 0;
                for (int i = 0; i < before + undone; i++) {
                    x.ring();
                    rounds++;
                }
                for (int i = 0; i < undone; i++) {
                    x.undo();
                    rounds--;
                }
                for (int i = 0; i < 4; i++) {
                    x.ring();
                    rounds++;
                }
                int left = Math.min(10, Math.min(10 - undone, before) + 4);
                for (int i = left - 1; i >= 0; i--) {
                    CHECKS.due("undo", x.undo(), i);
                    rounds--;
                    CHECKS.due("rounds", x.size(2), rounds);
                }
                CHECKS.due("no more", x.undo(), NewsExchange.NONE);
                CHECKS.due("rounds", x.size(2), rounds);
            }
        }
    }

    private static void promise30Counts() {
        NewsExchange x = busy();
        CHECKS.due("of 5", x.undo(), 4);
        x.arrangeBest();
        CHECKS.due("of 5 again", x.undo(), 4);
        CHECKS.due("of 4", x.undo(), 3);
        CHECKS.due("of 3", x.undo(), 2);
        CHECKS.due("of 2", x.undo(), 1);
        CHECKS.due("line 1 was arranged", x.arranged(), 2);
        CHECKS.due("of 1", x.undo(), 0);
        CHECKS.due("nothing is arranged", x.arranged(), 0);
        CHECKS.due("nothing is known of others", x.missing(), 12);
    }

    private static void promise31Slots() {
        Twins twins = twins(ChangeBoundsTest::busy);
        for (int slot : new int[] {MIN, -1, 2, 3, MAX}) {
            twins.noPlace("saveSnapshot(" + slot + ")", x -> x.saveSnapshot(slot) ? 1 : 0);
        }
        NewsExchange x = new NewsExchange();
        CHECKS.due("slot 0", x.saveSnapshot(0), false);
        CHECKS.due("slot 1", x.saveSnapshot(1), false);
        CHECKS.due("slot 0 again", x.saveSnapshot(0), true);
        CHECKS.due("slot 1 again", x.saveSnapshot(1), true);
    }

    private static void promise31Earlier() {
        NewsExchange x = square();
        for (int time = 0; time <= 3; time++) {
            CHECKS.due("an earlier one", x.saveSnapshot(1), time > 0);
            x.ring();
        }
        CHECKS.due("in its place", x.restoreSnapshot(1), 3);
        CHECKS.dueBadState("the other slot is empty", () -> x.restoreSnapshot(0));
        CHECKS.due("a restored one is still there", x.saveSnapshot(1), true);
    }

    /** Whatever is done behind it, a snapshot brings all back. */
    private static void promise31HoldsEverything() {
        NewsExchange saved = busy();
        saved.saveSnapshot(0);
        saved.restoreSnapshot(0);
        String want = Twins.standing(saved);
        NewsExchange x = busy();
        x.saveSnapshot(0);
        x.ring();
        x.cut(1);
        x.mend(2);
        x.tell(1, 2);
        x.arrange(0);
        x.takeBack(0);
        x.arrangeBest();
        x.ring();
        x.ring();
        x.undo();
        x.restoreSnapshot(0);
        CHECKS.due("as it was: same", Twins.standing(x).equals(want), true);
    }

    private static void promise32Slots() {
        Twins twins = twins(ChangeBoundsTest::busy);
        for (int slot : new int[] {MIN, -1, 2, 3, MAX}) {
            twins.noPlace("restoreSnapshot(" + slot + "), checked first", x -> x.restoreSnapshot(slot));
        }
        twins.badState("slot 0 is empty", x -> x.restoreSnapshot(0));
        twins(NewsExchange::new).badState("slot 1 is empty", x -> x.restoreSnapshot(1));
        NewsExchange x = busy();
        CHECKS.due("rounds that were made then", x.restoreSnapshot(1), 1);
        NewsExchange y = new NewsExchange();
        y.saveSnapshot(0);
        y.ring();
        CHECKS.due("no rounds", y.restoreSnapshot(0), 0);
        CHECKS.due("rounds", y.size(2), 0);
    }

    private static void promise32StaysStored() {
        NewsExchange x = square();
        x.arrange(0);
        x.saveSnapshot(0);
        x.ring();
        x.saveSnapshot(1);
        for (int time = 0; time < 3; time++) {
            x.tell(3, time);
            x.ring();
            CHECKS.due("slot 0", x.restoreSnapshot(0), 0);
            CHECKS.due("its call", x.arranged(), 1);
            CHECKS.due("its news", x.missing(), 12);
            x.takeBack(0);
            x.cut(0);
            CHECKS.due("slot 1", x.restoreSnapshot(1), 1);
            CHECKS.due("its call is made", x.size(3), 1);
            CHECKS.due("its cost", x.spent(1), 3);
            CHECKS.due("its news", x.missing(), 10);
            CHECKS.due("its lines", x.size(5), 0);
        }
    }

    private static void promise32ClearsHistory() {
        NewsExchange x = square();
        x.saveSnapshot(0);
        for (int i = 0; i < 12; i++) {
            x.ring();
        }
        CHECKS.due("restored", x.restoreSnapshot(0), 0);
        CHECKS.due("nothing to undo", x.undo(), NewsExchange.NONE);
        CHECKS.due("rounds", x.size(2), 0);
        x.ring();
        CHECKS.due("only what came behind", x.undo(), 0);
        CHECKS.due("nothing more", x.undo(), NewsExchange.NONE);
        x.tell(0, 1);
        CHECKS.dueBadState("a refused one", () -> x.restoreSnapshot(1));
        CHECKS.due("leaves the history", x.undo(), 0);
    }

    private static void parseAndSlots() {
        NewsExchange x = busy();
        x.saveSnapshot(0);
        CHECKS.due("wrong text", Texts.parse(x, "people 4;?"), 1);
        CHECKS.due("slot 0 is filled", x.saveSnapshot(0), true);
        CHECKS.due("slot 1 is filled", x.saveSnapshot(1), true);
        CHECKS.dueBadArgument("no text", () -> x.parse(1));
        CHECKS.due("slot 1 is filled", x.saveSnapshot(1), true);
        CHECKS.due("the empty text", x.parse(0), 0);
        CHECKS.dueBadState("slot 0 is empty", () -> x.restoreSnapshot(0));
        CHECKS.dueBadState("slot 1 is empty", () -> x.restoreSnapshot(1));
        CHECKS.due("nothing to undo", x.undo(), NewsExchange.NONE);
        CHECKS.due("slot 0", x.saveSnapshot(0), false);
        CHECKS.due("slot 1", x.saveSnapshot(1), false);
    }

    /** An object is used for at most 512 calls, the last one like the first. */
    private static void all512Calls() {
        NewsExchange x = new NewsExchange();
        int rounds = 0;
        for (int calls = 3; calls <= 510; calls += 3) {
            CHECKS.due("round " + rounds, x.ring(), 0);
            CHECKS.due("round " + rounds + " undone", x.undo(), Math.min(9, rounds));
            CHECKS.due("round " + rounds + " again", x.ring(), 0);
            rounds++;
        }
        CHECKS.due("call 511", x.size(2), 170);
        CHECKS.due("call 512", x.undo(), 9);
    }
}
