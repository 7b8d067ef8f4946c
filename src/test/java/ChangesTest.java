/** Promises 23 to 32: the changes, undo and snapshots. */
public final class ChangesTest {
    private static final Checks CHECKS = new Checks("ChangesTest");
    private static final String SQUARE = "people 4;line 0 1 both 3;line 2 3 both 4;line 0 2 both 5;line 1 3 forth 6;";

    public static void main(String[] args) {
        arrange();
        arrangeInRounds();
        takeBack();
        arrangeBest();
        ring();
        lastRound();
        cut();
        mend();
        tell();
        undo();
        undoOfEach();
        historyOfTen();
        failuresChangeNothing();
        saveSnapshot();
        restoreSnapshot();
        spentInSnapshots();
        CHECKS.end();
    }

    private static void arrange() {
        NewsExchange x = Texts.exchange(SQUARE);
        CHECKS.due("arrange(0)", x.arrange(0), 2);
        CHECKS.dueBadState("again", () -> x.arrange(0));
        CHECKS.dueBadState("the same first person", () -> x.arrange(2));
        CHECKS.dueBadState("the same person", () -> x.arrange(3));
        CHECKS.due("arrange(1)", x.arrange(1), 4);
        CHECKS.dueNoPlace("arrange(4)", () -> x.arrange(4));
        CHECKS.dueNoPlace("arrange(-1)", () -> x.arrange(-1));
        CHECKS.due("arranged", x.arranged(), 3);
        NewsExchange y = Texts.exchange(SQUARE);
        y.cut(3);
        CHECKS.dueBadState("cut", () -> y.arrange(3));
        y.mend(3);
        CHECKS.due("mended, forth", y.arrange(3), 1);
    }

    private static void arrangeInRounds() {
        NewsExchange x = Texts.exchange("line 0 1 both 3;line 2 3 both 4;broken 0 2 2;away 3 3 3;");
        CHECKS.due("round 1", x.arrange(0), 2);
        x.ring();
        CHECKS.dueBadState("broken in round 2", () -> x.arrange(0));
        CHECKS.due("round 2", x.arrange(1), 2);
        x.takeBack(1);
        x.ring();
        CHECKS.dueBadState("away in round 3", () -> x.arrange(1));
        CHECKS.due("nothing new in round 3", x.arrange(0), 0);
    }

    private static void takeBack() {
        NewsExchange x = Texts.exchange(SQUARE);
        x.arrange(0);
        x.arrange(1);
        CHECKS.due("takeBack(0)", x.takeBack(0), 2);
        CHECKS.due("arranged", x.arranged(), 2);
        CHECKS.dueBadState("again", () -> x.takeBack(0));
        CHECKS.due("takeBack(1)", x.takeBack(1), 0);
        CHECKS.dueNoPlace("takeBack(4)", () -> x.takeBack(4));
        CHECKS.dueNoPlace("takeBack(-1)", () -> x.takeBack(-1));
        CHECKS.due("free again", x.arrange(2), 2);
    }

    private static void arrangeBest() {
        NewsExchange x = Texts.exchange(SQUARE);
        x.arrange(3);
        CHECKS.due("arrangeBest", x.arrangeBest(), 4);
        CHECKS.due("in place of what is arranged", x.arranged(), 3);
        CHECKS.due("the same again is a change", x.arrangeBest(), 4);
        CHECKS.due("undo", x.undo(), 2);
        CHECKS.due("undo", x.undo(), 1);
        CHECKS.due("what was arranged", x.arranged(), 8);
        NewsExchange none = new NewsExchange();
        CHECKS.due("no lines", none.arrangeBest(), 0);
        CHECKS.due("a change though", none.undo(), 0);
    }

    private static void ring() {
        NewsExchange x = Texts.exchange(SQUARE);
        CHECKS.due("no calls", x.ring(), 0);
        CHECKS.due("rounds", x.size(2), 1);
        x.arrange(0);
        x.arrange(1);
        CHECKS.due("two calls", x.ring(), 4);
        CHECKS.due("rounds", x.size(2), 2);
        CHECKS.due("calls", x.size(3), 2);
        CHECKS.due("nothing is arranged", x.arranged(), 0);
        x.arrange(3);
        CHECKS.due("forth", x.ring(), 2);
        CHECKS.due("who gets", x.known(3), 15);
        CHECKS.due("who gives", x.known(1), 3);
        CHECKS.due("spent", x.spent(3), 13);
        NewsExchange y = new NewsExchange();
        for (int round = 1; round <= 500; round++) {
            y.ring();
        }
        CHECKS.due("500 rounds", y.size(2), 500);
    }

    /** More calls than the document promises anything about, but the limit of ring is told by it. */
    private static void lastRound() {
        NewsExchange x = Texts.exchange(SQUARE);
        for (int round = 1; round <= 9999; round++) {
            x.arrange(0);
            x.ring();
        }
        CHECKS.due("rounds", x.size(2), 9999);
        CHECKS.due("spent", x.spent(9999), 9999 * 3);
        CHECKS.due("spent", x.spent(9998), 9998 * 3);
        CHECKS.dueBadState("ring", x::ring);
        CHECKS.due("rounds", x.size(2), 9999);
        CHECKS.due("undo", x.undo(), 9);
        CHECKS.due("spent", x.spent(9999), 9998 * 3);
        CHECKS.due("ring", x.ring(), 0);
    }

    private static void cut() {
        NewsExchange x = Texts.exchange(SQUARE);
        x.arrange(0);
        x.arrange(1);
        CHECKS.due("cut of arranged", x.cut(0), true);
        CHECKS.due("not arranged any more", x.arranged(), 2);
        CHECKS.due("cut of not arranged", x.cut(2), false);
        CHECKS.due("the other stays arranged", x.arranged(), 2);
        CHECKS.due("number", x.size(5), 2);
        CHECKS.dueBadState("again", () -> x.cut(0) ? 1 : 0);
        CHECKS.dueNoPlace("cut(4)", () -> x.cut(4) ? 1 : 0);
        CHECKS.dueNoPlace("cut(-1)", () -> x.cut(-1) ? 1 : 0);
        x.ring();
        CHECKS.due("still cut after a round", x.line(0, 4), 1);
    }

    private static void mend() {
        NewsExchange x = Texts.exchange(SQUARE);
        CHECKS.dueBadState("not cut", () -> x.mend(0));
        x.arrange(0);
        x.cut(0);
        x.cut(1);
        CHECKS.due("mend(0)", x.mend(0), 1);
        CHECKS.due("it is not arranged again", x.arranged(), 0);
        CHECKS.dueBadState("again", () -> x.mend(0));
        CHECKS.due("mend(1)", x.mend(1), 0);
        CHECKS.dueNoPlace("mend(4)", () -> x.mend(4));
        CHECKS.dueNoPlace("mend(-1)", () -> x.mend(-1));
    }

    private static void tell() {
        NewsExchange x = Texts.exchange(SQUARE);
        CHECKS.due("tell(0, 3)", x.tell(0, 3), 2);
        CHECKS.due("tell(0, 1)", x.tell(0, 1), 3);
        CHECKS.due("known", x.known(0), 11);
        CHECKS.due("not the other", x.known(3), 8);
        CHECKS.dueBadState("again", () -> x.tell(0, 1));
        CHECKS.dueBadState("the own piece", () -> x.tell(2, 2));
        CHECKS.dueNoPlace("person 4", () -> x.tell(4, 0));
        CHECKS.dueNoPlace("piece 4", () -> x.tell(0, 4));
        CHECKS.dueNoPlace("person -1", () -> x.tell(-1, 0));
        CHECKS.dueNoPlace("piece -1", () -> x.tell(0, -1));
        CHECKS.due("rounds", x.size(2), 0);
    }

    private static void undo() {
        NewsExchange x = Texts.exchange(SQUARE);
        CHECKS.due("nothing", x.undo(), -1);
        x.tell(0, 1);
        x.tell(0, 2);
        x.tell(0, 3);
        CHECKS.due("latest first", x.undo(), 2);
        CHECKS.due("known", x.known(0), 7);
        x.tell(3, 0);
        CHECKS.due("latest first", x.undo(), 2);
        CHECKS.due("known", x.known(3), 8);
        CHECKS.due("undo", x.undo(), 1);
        CHECKS.due("undo", x.undo(), 0);
        CHECKS.due("undo", x.undo(), -1);
        CHECKS.due("known", x.known(0), 1);
    }

    private static void undoOfEach() {
        NewsExchange x = Texts.exchange(SQUARE);
        x.arrange(0);
        x.undo();
        CHECKS.due("arrange", x.arranged(), 0);
        x.arrange(0);
        x.takeBack(0);
        x.undo();
        CHECKS.due("takeBack", x.arranged(), 1);
        x.ring();
        x.undo();
        CHECKS.due("ring: rounds", x.size(2), 0);
        CHECKS.due("ring: calls", x.size(3), 0);
        CHECKS.due("ring: news", x.missing(), 12);
        CHECKS.due("ring: arranged", x.arranged(), 1);
        CHECKS.due("ring: spent", x.spent(9999), 0);
        x.cut(0);
        x.undo();
        CHECKS.due("cut", x.line(0, 4), 0);
        CHECKS.due("cut: arranged", x.arranged(), 1);
        x.cut(0);
        x.mend(0);
        x.undo();
        CHECKS.due("mend", x.line(0, 4), 1);
        x.tell(1, 0);
        x.undo();
        CHECKS.due("tell", x.known(1), 2);
    }

    private static void historyOfTen() {
        NewsExchange x = Texts.exchange("people 10;");
        for (int round = 1; round <= 13; round++) {
            x.ring();
        }
        for (int left = 9; left >= 5; left--) {
            CHECKS.due("undo", x.undo(), left);
        }
        CHECKS.due("rounds", x.size(2), 8);
        for (int round = 1; round <= 7; round++) {
            x.ring();
        }
        for (int left = 9; left >= 0; left--) {
            CHECKS.due("undo", x.undo(), left);
        }
        CHECKS.due("undo", x.undo(), -1);
        CHECKS.due("rounds", x.size(2), 5);
    }

    private static void failuresChangeNothing() {
        NewsExchange x = Texts.exchange(SQUARE);
        x.arrange(0);
        CHECKS.dueBadState("arrange", () -> x.arrange(2));
        CHECKS.dueBadState("takeBack", () -> x.takeBack(1));
        CHECKS.dueBadState("mend", () -> x.mend(1));
        CHECKS.dueBadState("tell", () -> x.tell(0, 0));
        CHECKS.dueNoPlace("cut", () -> x.cut(4) ? 1 : 0);
        CHECKS.dueBadState("restoreSnapshot", () -> x.restoreSnapshot(1));
        CHECKS.due("only one change", x.undo(), 0);
    }

    private static void saveSnapshot() {
        NewsExchange x = Texts.exchange(SQUARE);
        CHECKS.due("slot 0", x.saveSnapshot(0), false);
        CHECKS.due("slot 0 again", x.saveSnapshot(0), true);
        CHECKS.due("slot 1", x.saveSnapshot(1), false);
        CHECKS.dueNoPlace("slot 2", () -> x.saveSnapshot(2) ? 1 : 0);
        CHECKS.dueNoPlace("slot -1", () -> x.saveSnapshot(-1) ? 1 : 0);
        CHECKS.due("no change", x.undo(), -1);
        x.tell(0, 1);
        x.saveSnapshot(0);
        CHECKS.due("the history stays", x.undo(), 0);
        CHECKS.due("undone", x.known(0), 1);
        x.restoreSnapshot(0);
        CHECKS.due("in place of the earlier one", x.known(0), 3);
        x.restoreSnapshot(1);
        CHECKS.due("the other slot", x.known(0), 1);
    }

    private static void restoreSnapshot() {
        NewsExchange x = Texts.exchange(SQUARE);
        CHECKS.dueBadState("empty", () -> x.restoreSnapshot(0));
        CHECKS.dueNoPlace("slot 2", () -> x.restoreSnapshot(2));
        CHECKS.dueNoPlace("slot -1", () -> x.restoreSnapshot(-1));
        x.arrange(1);
        x.ring();
        x.arrange(0);
        x.cut(3);
        x.tell(0, 3);
        x.saveSnapshot(0);
        CHECKS.dueBadState("the other is empty", () -> x.restoreSnapshot(1));
        x.ring();
        x.ring();
        x.mend(3);
        x.tell(2, 0);
        CHECKS.due("rounds", x.restoreSnapshot(0), 1);
        CHECKS.due("history", x.undo(), -1);
        CHECKS.due("rounds", x.size(2), 1);
        CHECKS.due("calls", x.size(3), 1);
        CHECKS.due("arranged", x.arranged(), 1);
        CHECKS.due("cut", x.line(3, 4), 1);
        CHECKS.due("known", x.known(0), 9);
        CHECKS.due("known", x.known(1), 2);
        CHECKS.due("spent", x.spent(9999), 4);
        x.ring();
        CHECKS.due("it stays stored", x.restoreSnapshot(0), 1);
        CHECKS.due("it is as it was", x.arranged(), 1);
    }

    private static void spentInSnapshots() {
        NewsExchange x = Texts.exchange(SQUARE);
        x.arrange(0);
        x.ring();
        x.arrange(1);
        x.ring();
        x.saveSnapshot(0);
        x.undo();
        x.undo();
        x.arrange(2);
        x.ring();
        x.ring();
        CHECKS.due("another way", x.spent(1), 3);
        CHECKS.due("another way", x.spent(2), 8);
        CHECKS.due("restored", x.restoreSnapshot(0), 2);
        CHECKS.due("spent then", x.spent(1), 3);
        CHECKS.due("spent then", x.spent(2), 7);
    }
}
