/** Promises 16 to 22: the best set, plans, bounds, rows of calls. */
public final class WouldBeTest {
    private static final Checks CHECKS = new Checks("WouldBeTest");

    public static void main(String[] args) {
        bestByGain();
        bestByCost();
        bestByBits();
        bestOfUsable();
        plan();
        planWaits();
        planEnds();
        fewest();
        fewestWaits();
        fewestArguments();
        doublings();
        soonest();
        soonestWaits();
        cheapest();
        vital();
        nothingChanges();
        CHECKS.end();
    }

    private static void best(String name, NewsExchange x, int lines, int gain, int cost) {
        CHECKS.due(name + ": best(0)", x.best(0), lines);
        CHECKS.due(name + ": best(1)", x.best(1), gain);
        CHECKS.due(name + ": best(2)", x.best(2), cost);
    }

    private static void bestByGain() {
        best("middle or ends", Texts.exchange("line 1 2 both 0;line 0 1 both 900;line 2 3 both 900;"), 6, 4, 1800);
        best("both beats forth", Texts.exchange("line 0 1 forth 0;line 0 1 both 999;"), 2, 2, 999);
        NewsExchange x = Texts.exchange("people 3;line 0 1 both 1;line 1 2 both 900;");
        x.tell(2, 0);
        best("more news", x, 2, 3, 900);
        best("no lines", new NewsExchange(), 0, 0, 0);
        NewsExchange all = Texts.exchange("people 2;line 0 1 both 0;");
        all.tell(0, 1);
        all.tell(1, 0);
        best("nothing to gain", all, 0, 0, 0);
        CHECKS.dueBadArgument("best(-1)", () -> all.best(-1));
        CHECKS.dueBadArgument("best(3)", () -> all.best(3));
    }

    private static void bestByCost() {
        best("cheaper line of two", Texts.exchange("line 0 1 both 9;line 0 1 both 8;line 1 0 both 8;"), 2, 2, 8);
        best("cheaper pairs", Texts.exchange("line 0 1 both 5;line 2 3 both 5;line 0 2 both 4;line 1 3 both 5;"), 12, 4, 9);
        best("dear lines", Texts.exchange("people 10;line 0 1 both 999;line 2 3 both 999;line 4 5 both 999;"
            + "line 6 7 both 999;line 8 9 both 999;line 1 2 both 0;line 3 4 both 0;line 5 6 both 0;line 7 8 both 0;"), 31, 10, 4995);
    }

    private static void bestByBits() {
        best("same gain, same cost", Texts.exchange("line 0 2 both 5;line 0 1 both 5;line 2 3 both 5;line 1 3 both 5;"), 6, 4, 10);
        best("cost nothing", Texts.exchange("line 0 1 both 0;line 0 1 both 0;"), 1, 2, 0);
        StringBuilder lines = new StringBuilder();
        for (int i = 0; i < 23; i++) {
            lines.append("line 0 1 both 1;");
        }
        best("24 lines", Texts.exchange(lines + "line 0 1 both 0;"), 1 << 23, 2, 0);
    }

    private static void bestOfUsable() {
        NewsExchange x = Texts.exchange("line 0 1 both 1;line 0 1 both 2;line 2 3 both 3;line 2 3 forth 4;broken 0 1 1;broken 2 2 2;away 3 3 3;");
        best("broken now", x, 6, 4, 5);
        x.arrange(2);
        best("whatever is arranged", x, 6, 4, 5);
        x.takeBack(2);
        x.ring();
        best("broken in the next round", x, 9, 3, 5);
        x.ring();
        best("away", x, 1, 2, 1);
        x.cut(0);
        best("cut", x, 2, 2, 2);
    }

    private static void plan(String name, NewsExchange x, int rounds, int calls, int cost, int missing) {
        CHECKS.due(name + ": plan(0)", x.plan(0), rounds);
        CHECKS.due(name + ": plan(1)", x.plan(1), calls);
        CHECKS.due(name + ": plan(2)", x.plan(2), cost);
        CHECKS.due(name + ": plan(3)", x.plan(3), missing);
    }

    private static void plan() {
        plan("no lines", new NewsExchange(), -1, 0, 0, 12);
        NewsExchange x = Texts.exchange("people 4;line 0 1 both 3;line 2 3 both 4;line 0 2 both 5;line 1 3 both 6;");
        plan("square", x, 2, 4, 18, 0);
        x.arrange(3);
        plan("whatever is arranged", x, 2, 4, 18, 0);
        x.ring();
        plan("from the next round", x, 2, 4, 18, 0);
        plan("row", Texts.exchange("people 3;line 0 1 both 3;line 1 2 both 4;"), 3, 3, 10, 0);
        plan("one way", Texts.exchange("people 3;line 0 1 forth 3;line 1 2 forth 4;"), -1, 2, 7, 3);
        NewsExchange done = Texts.exchange("people 2;line 0 1 both 3;");
        done.arrange(0);
        done.ring();
        plan("everybody knows everything", done, 0, 0, 0, 0);
        CHECKS.dueBadArgument("plan(-1)", () -> x.plan(-1));
        CHECKS.dueBadArgument("plan(4)", () -> x.plan(4));
    }

    private static void planWaits() {
        plan("39 rounds broken", Texts.exchange("people 2;line 0 1 both 7;broken 0 1 39;"), 40, 1, 7, 0);
        plan("40 rounds broken", Texts.exchange("people 2;line 0 1 both 7;broken 0 1 40;"), -1, 0, 0, 2);
        NewsExchange x = Texts.exchange("people 2;line 0 1 both 7;away 1 1 40;");
        plan("40 rounds away", x, -1, 0, 0, 2);
        x.ring();
        plan("after a round", x, 40, 1, 7, 0);
        x.cut(0);
        plan("cut", x, -1, 0, 0, 2);
    }

    private static void planEnds() {
        plan("the last round of 40", Texts.exchange("people 3;line 0 1 both 7;line 1 2 both 1;broken 1 1 38;"), 40, 3, 9 + 6, 0);
        plan("40 rounds are not enough", Texts.exchange("people 3;line 0 1 both 7;line 1 2 both 1;broken 1 1 39;"), -1, 2, 8, 1);
    }

    private static void fewest(String name, NewsExchange x, int rounds) {
        for (int limit = 0; limit <= 4; limit++) {
            CHECKS.due(name + ": fewest(" + limit + ")", x.fewest(limit), rounds >= 0 && rounds <= limit ? rounds : -1);
        }
    }

    private static void fewest() {
        fewest("no lines", new NewsExchange(), -1);
        fewest("square", Texts.exchange("line 0 1 both 3;line 2 3 both 4;line 0 2 both 5;line 1 3 both 6;"), 2);
        fewest("row of 3", Texts.exchange("people 3;line 0 1 both 3;line 1 2 both 4;"), 3);
        fewest("row of 4", Texts.exchange("people 4;line 0 1 both 3;line 1 2 both 4;line 2 3 both 5;"), 3);
        fewest("row of 6", Texts.exchange("people 6;line 0 1 both 3;line 1 2 both 4;line 2 3 both 5;line 3 4 both 0;line 4 5 both 0;"), -1);
        fewest("two", Texts.exchange("people 2;line 1 0 both 3;"), 1);
        fewest("two, one way", Texts.exchange("people 2;line 0 1 forth 3;"), -1);
        fewest("two, one way each", Texts.exchange("people 2;line 0 1 forth 3;line 1 0 forth 3;"), 2);
        fewest("ring of 6", Texts.exchange("people 6;line 0 1 both 3;line 1 2 both 4;line 2 3 both 5;line 3 4 both 0;line 4 5 both 0;line 5 0 both 0;"), 3);
        fewest("ring of 5", Texts.exchange("people 5;line 0 1 both 3;line 1 2 both 4;line 2 3 both 5;line 3 4 both 0;line 4 0 both 0;"), 4);
        fewest("a greedy plan is longer", Texts.exchange("people 4;line 0 1 both 1;line 1 2 both 1;line 2 3 both 1;line 3 0 both 1;line 0 2 both 0;"), 2);
        NewsExchange x = Texts.exchange("people 2;");
        x.tell(0, 1);
        x.tell(1, 0);
        fewest("everybody knows everything", x, 0);
    }

    private static void fewestWaits() {
        NewsExchange x = Texts.exchange("people 2;line 0 1 both 7;broken 0 1 3;");
        fewest("broken", x, 4);
        x.ring();
        fewest("a round later", x, 3);
        x.cut(0);
        fewest("cut", x, -1);
        fewest("away too long", Texts.exchange("people 2;line 0 1 both 7;away 0 1 4;"), -1);
        fewest("must not call at first", Texts.exchange("people 3;line 0 1 both 7;line 1 2 both 1;broken 0 2 2;"), 3);
    }

    private static void fewestArguments() {
        NewsExchange seven = Texts.exchange("people 7;");
        CHECKS.dueBadState("7 people", () -> seven.fewest(4));
        CHECKS.dueBadState("7 people, limit 0", () -> seven.fewest(0));
        CHECKS.dueBadArgument("the limit first", () -> seven.fewest(5));
        CHECKS.dueBadArgument("the limit first", () -> seven.fewest(-1));
        NewsExchange six = Texts.exchange("people 6;");
        CHECKS.due("6 people", six.fewest(4), -1);
        CHECKS.dueBadArgument("limit 5", () -> six.fewest(5));
        CHECKS.dueBadArgument("limit -1", () -> six.fewest(-1));
    }

    private static void doublings() {
        int[] due = {0, 0, 1, 2, 2, 3, 3, 3, 3, 4, 4};
        for (int people = 2; people <= 10; people++) {
            CHECKS.due("doublings of " + people, Texts.exchange("people " + people + ";").doublings(), due[people]);
        }
        NewsExchange x = Texts.exchange("people 5;");
        dueWhileTelling(x, 1, 3, 2);
        dueWhileTelling(x, 2, 2, 1);
        dueWhileTelling(x, 3, 1, 1);
        dueWhileTelling(x, 4, 1, 0);
    }

    /** Tells each piece to one person more: the bound goes down with the last piece. */
    private static void dueWhileTelling(NewsExchange x, int distance, int before, int behind) {
        for (int piece = 0; piece < 5; piece++) {
            CHECKS.due("the greatest over all pieces", x.doublings(), before);
            x.tell((piece + distance) % 5, piece);
        }
        CHECKS.due("all are known by one more", x.doublings(), behind);
    }

    private static void soonest() {
        NewsExchange x = Texts.exchange("people 5;line 0 1 both 1;line 1 2 forth 1;line 1 3 both 1;");
        CHECKS.due("own", x.soonest(2, 2), 0);
        CHECKS.due("one call", x.soonest(1, 0), 1);
        CHECKS.due("two rounds", x.soonest(2, 0), 2);
        CHECKS.due("many calls of one person", x.soonest(3, 0), 2);
        CHECKS.due("one way only", x.soonest(1, 2), -1);
        CHECKS.due("no line", x.soonest(4, 0), -1);
        x.tell(4, 0);
        CHECKS.due("told", x.soonest(4, 0), 0);
        x.cut(0);
        CHECKS.due("cut", x.soonest(1, 0), -1);
        CHECKS.dueNoPlace("person 5", () -> x.soonest(5, 0));
        CHECKS.dueNoPlace("piece 5", () -> x.soonest(0, 5));
        CHECKS.dueNoPlace("person -1", () -> x.soonest(-1, 0));
        CHECKS.dueNoPlace("piece -1", () -> x.soonest(0, -1));
    }

    private static void soonestWaits() {
        NewsExchange x = Texts.exchange("people 3;line 0 1 both 1;line 1 2 both 1;broken 0 1 59;away 2 1 60;");
        CHECKS.due("broken", x.soonest(1, 0), 60);
        CHECKS.due("broken and away", x.soonest(2, 0), -1);
        CHECKS.due("away too long", x.soonest(2, 1), -1);
        x.ring();
        CHECKS.due("from the next round", x.soonest(1, 0), 59);
        CHECKS.due("from the next round", x.soonest(2, 0), 60);
        CHECKS.due("from the next round", x.soonest(2, 1), 60);
    }

    private static void cheapest() {
        NewsExchange x = Texts.exchange("people 5;line 0 1 both 9;line 1 2 forth 9;line 0 2 both 20;line 0 2 forth 18;line 3 2 forth 0;broken 0 1 999;away 1 1 999;");
        CHECKS.due("own", x.cheapest(0, 0), 0);
        CHECKS.due("one call", x.cheapest(1, 0), 9);
        CHECKS.due("same by two ways", x.cheapest(2, 0), 18);
        CHECKS.due("forth is not back", x.cheapest(0, 2), 20);
        CHECKS.due("round about", x.cheapest(1, 2), 29);
        CHECKS.due("free call", x.cheapest(2, 3), 0);
        CHECKS.due("behind a free call", x.cheapest(1, 3), 29);
        CHECKS.due("no row", x.cheapest(3, 0), -1);
        CHECKS.due("no line", x.cheapest(4, 0), -1);
        x.tell(1, 3);
        CHECKS.due("nearest knower", x.cheapest(0, 3), 9);
        x.cut(0);
        CHECKS.due("cut", x.cheapest(0, 3), 20);
        CHECKS.due("cut", x.cheapest(1, 0), -1);
        CHECKS.dueNoPlace("person 5", () -> x.cheapest(5, 0));
        CHECKS.dueNoPlace("piece 5", () -> x.cheapest(0, 5));
        CHECKS.dueNoPlace("person -1", () -> x.cheapest(-1, 0));
        CHECKS.dueNoPlace("piece -1", () -> x.cheapest(0, -1));
        CHECKS.due("row of 10", Texts.exchange("people 10;line 9 8 both 999;line 8 7 both 999;line 7 6 both 999;line 6 5 both 999;"
            + "line 5 4 both 999;line 4 3 both 999;line 3 2 both 999;line 2 1 both 999;line 1 0 both 999;").cheapest(0, 9), 8991);
    }

    private static void vital() {
        CHECKS.due("no lines", new NewsExchange().vital(), 0);
        NewsExchange x = Texts.exchange("people 5;line 0 1 both 1;line 1 2 both 1;line 2 0 both 1;line 2 3 forth 1;broken 3 1 999;");
        CHECKS.due("bridge", x.vital(), 8);
        x.cut(0);
        CHECKS.due("row", x.vital(), 14);
        x.cut(3);
        CHECKS.due("without what is cut", x.vital(), 6);
        x.mend(0);
        CHECKS.due("ring", x.vital(), 0);
        NewsExchange two = Texts.exchange("people 2;line 0 1 both 1;line 0 1 forth 1;");
        CHECKS.due("one way of two", two.vital(), 1);
        two.tell(0, 1);
        CHECKS.due("known already", two.vital(), 0);
        two.cut(0);
        CHECKS.due("the last one", two.vital(), 2);
    }

    private static void nothingChanges() {
        NewsExchange x = Texts.exchange("people 4;line 0 1 both 3;line 2 3 both 4;line 0 2 both 5;line 1 3 both 6;");
        x.arrange(0);
        x.best(0);
        x.plan(0);
        x.fewest(4);
        x.soonest(3, 0);
        x.cheapest(3, 0);
        x.vital();
        CHECKS.due("rounds", x.size(2), 0);
        CHECKS.due("arranged", x.arranged(), 1);
        CHECKS.due("missing", x.missing(), 12);
        CHECKS.due("spent", x.spent(9999), 0);
        CHECKS.due("undo", x.undo(), 0);
    }
}
