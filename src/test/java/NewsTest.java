/** Promises 9 to 15: the news, what is arranged, what was spent. */
public final class NewsTest {
    private static final Checks CHECKS = new Checks("NewsTest");

    public static void main(String[] args) {
        known();
        forthGivesOneWay();
        callsAtOnce();
        missing();
        arranged();
        gain();
        spent();
        CHECKS.end();
    }

    private static void known() {
        NewsExchange x = Texts.exchange("people 3;line 0 1 both 5;");
        CHECKS.due("known", x.known(2), 4);
        CHECKS.due("knowers", x.knowers(2), 4);
        x.arrange(0);
        CHECKS.due("arranged is not made", x.known(0), 1);
        x.ring();
        CHECKS.due("known", x.known(0), 3);
        CHECKS.due("known", x.known(1), 3);
        CHECKS.due("known", x.known(2), 4);
        CHECKS.due("knowers", x.knowers(0), 3);
        CHECKS.due("knowers", x.knowers(2), 4);
        x.tell(2, 0);
        CHECKS.due("knowers", x.knowers(0), 7);
        CHECKS.dueNoPlace("known(3)", () -> x.known(3));
        CHECKS.dueNoPlace("known(-1)", () -> x.known(-1));
        CHECKS.dueNoPlace("knowers(3)", () -> x.knowers(3));
        CHECKS.dueNoPlace("knowers(-1)", () -> x.knowers(-1));
        CHECKS.dueNoPlace("known(10)", () -> x.known(10));
        CHECKS.dueNoPlace("knowers(min)", () -> x.knowers(Integer.MIN_VALUE));
    }

    private static void forthGivesOneWay() {
        NewsExchange x = Texts.exchange("people 2;line 1 0 forth 5;");
        CHECKS.due("arrange", x.arrange(0), 1);
        CHECKS.due("ring", x.ring(), 1);
        CHECKS.due("the second person", x.known(0), 3);
        CHECKS.due("the first person", x.known(1), 2);
    }

    private static void callsAtOnce() {
        NewsExchange x = Texts.exchange("people 10;line 0 1 both 1;line 2 3 both 1;line 4 5 both 1;line 6 7 forth 1;line 9 8 forth 1;");
        for (int line = 0; line < 5; line++) {
            x.arrange(line);
        }
        CHECKS.due("five calls", x.ring(), 8);
        int[] due = {3, 3, 12, 12, 48, 48, 64, 192, 768, 512};
        for (int person = 0; person < 10; person++) {
            CHECKS.due("known " + person, x.known(person), due[person]);
        }
    }

    private static void missing() {
        NewsExchange x = Texts.exchange("people 2;line 0 1 both 1;");
        CHECKS.due("missing of 2", x.missing(), 2);
        x.tell(0, 1);
        CHECKS.due("after a letter", x.missing(), 1);
        x.arrange(0);
        x.ring();
        CHECKS.due("after a call", x.missing(), 0);
        CHECKS.due("missing of 10", Texts.exchange("people 10;").missing(), 90);
    }

    private static void arranged() {
        NewsExchange x = Texts.exchange("people 5;line 0 1 both 5;line 2 1 forth 5;line 3 4 forth 6;");
        for (int person = 0; person < 5; person++) {
            CHECKS.due("no partner", x.partner(person), -1);
        }
        x.arrange(2);
        x.arrange(1);
        CHECKS.due("arranged", x.arranged(), 6);
        int[] due = {-1, 2, 1, 4, 3};
        for (int person = 0; person < 5; person++) {
            CHECKS.due("partner", x.partner(person), due[person]);
        }
        CHECKS.dueNoPlace("partner(5)", () -> x.partner(5));
        CHECKS.dueNoPlace("partner(-1)", () -> x.partner(-1));
        x.ring();
        CHECKS.due("arranged after ring", x.arranged(), 0);
        CHECKS.due("partner after ring", x.partner(1), -1);
    }

    private static void gain() {
        NewsExchange x = Texts.exchange("people 4;line 0 1 both 5;line 2 3 forth 5;line 1 2 both 5;");
        CHECKS.due("nothing arranged", x.gain(), 0);
        x.arrange(0);
        CHECKS.due("both", x.gain(), 2);
        x.arrange(1);
        CHECKS.due("both and forth", x.gain(), 3);
        x.tell(3, 2);
        CHECKS.due("told what the call brings", x.gain(), 2);
        x.tell(0, 3);
        CHECKS.due("told what it passes on", x.gain(), 3);
        x.tell(2, 0);
        CHECKS.due("and what the other passes on", x.gain(), 4);
        x.ring();
        CHECKS.due("after ring", x.gain(), 0);
        x.arrange(0);
        CHECKS.due("nothing new", x.gain(), 0);
    }

    private static void spent() {
        NewsExchange x = Texts.exchange("line 0 1 both 5;line 2 3 forth 40;line 0 1 both 999;");
        CHECKS.due("at first", x.spent(9999), 0);
        x.arrange(0);
        CHECKS.due("arranged is not spent", x.spent(9999), 0);
        x.arrange(1);
        x.ring();
        x.ring();
        x.arrange(2);
        x.ring();
        CHECKS.due("round 0", x.spent(0), 0);
        CHECKS.due("round 1", x.spent(1), 45);
        CHECKS.due("round 2", x.spent(2), 45);
        CHECKS.due("round 3", x.spent(3), 1044);
        CHECKS.due("round 4", x.spent(4), 1044);
        CHECKS.due("round 9999", x.spent(9999), 1044);
        CHECKS.dueBadArgument("round -1", () -> x.spent(-1));
        CHECKS.dueBadArgument("round 10000", () -> x.spent(10000));
        x.undo();
        CHECKS.due("after undo", x.spent(9999), 45);
    }
}
