/** Promises 1 to 8: the text, the lines. */
public final class TextTest {
    private static final Checks CHECKS = new Checks("TextTest");

    public static void main(String[] args) {
        newObject();
        append();
        bytesOfAppend();
        parseLengths();
        parseReplaces();
        nothingIsLeftOver();
        goodTexts();
        wrongTokens();
        latePeople();
        ranges();
        limits();
        earlyEnds();
        smallestCode();
        errorPosition();
        sizes();
        lines();
        usable();
        cheapestLine();
        CHECKS.end();
    }

    private static void newObject() {
        NewsExchange x = new NewsExchange();
        CHECKS.due("new: people", x.size(0), 4);
        for (int what = 1; what <= 5; what++) {
            CHECKS.due("new: size", x.size(what), 0);
        }
        for (int person = 0; person < 4; person++) {
            CHECKS.due("new: known", x.known(person), 1 << person);
            CHECKS.due("new: partner", x.partner(person), NewsExchange.NONE);
        }
        CHECKS.due("new: arranged", x.arranged(), 0);
        CHECKS.due("new: errorPosition", x.errorPosition(), -1);
        CHECKS.due("new: undo", x.undo(), -1);
        CHECKS.dueBadArgument("new: parse(1)", () -> x.parse(1));
        CHECKS.dueBadState("new: restoreSnapshot(0)", () -> x.restoreSnapshot(0));
        CHECKS.due("new: append", x.append(0, 0, 0, 0, 0), 20);
    }

    private static void append() {
        NewsExchange x = new NewsExchange();
        for (int i = 1; i <= 25; i++) {
            CHECKS.due("append " + i, x.append(0x20202020, 0x20202020, 0x20202020, 0x20202020, 0x20202020), 20 * i);
        }
        CHECKS.due("append beyond 500", x.append(0, 0, 0, 0, 0), NewsExchange.NONE);
        CHECKS.due("append beyond 500 again", x.append(0, 0, 0, 0, 0), NewsExchange.NONE);
        CHECKS.due("parse(500)", x.parse(500), 0);
        CHECKS.due("append behind parse", x.append(0, 0, 0, 0, 0), 20);
    }

    private static void bytesOfAppend() {
        NewsExchange x = new NewsExchange();
        // "peop" "le 3" ";lin" "e 0 " "1  f" and "orth" " 17;" with spaces behind
        x.append(0x70656f70, 0x6c652033, 0x3b6c696e, 0x65203020, 0x31202066);
        x.append(0x6f727468, 0x2031373b, 0x20202020, 0x20202020, 0x20202020);
        CHECKS.due("parse of bytes", x.parse(40), 0);
        CHECKS.due("people", x.size(0), 3);
        CHECKS.due("kind", x.line(0, 2), 1);
        CHECKS.due("cost", x.line(0, 3), 17);
        x.append(0x20202020, 0x20202020, 0x20202020, 0x20202020, 0x202020f0);
        CHECKS.due("byte above 127", x.parse(20), 1);
        CHECKS.due("its position", x.errorPosition(), 19);
    }

    private static void parseLengths() {
        NewsExchange x = new NewsExchange();
        CHECKS.due("parse(0)", x.parse(0), 0);
        CHECKS.dueBadArgument("parse(-1)", () -> x.parse(-1));
        CHECKS.dueBadArgument("parse(min)", () -> x.parse(Integer.MIN_VALUE));
        Texts.append(x, "people 5;");
        CHECKS.dueBadArgument("parse(21)", () -> x.parse(21));
        CHECKS.due("a throw keeps the buffer", x.parse(20), 0);
        CHECKS.due("people", x.size(0), 5);
        CHECKS.dueBadArgument("empty after success", () -> x.parse(1));
        Texts.append(x, "people 6;?");
        CHECKS.due("only the first bytes", x.parse(9), 0);
        CHECKS.due("people", x.size(0), 6);
        Texts.append(x, "people 7;?");
        CHECKS.due("with an invalid token", x.parse(10), 1);
        CHECKS.due("people as before", x.size(0), 6);
        CHECKS.dueBadArgument("empty after an error", () -> x.parse(1));
        CHECKS.due("the position stays", x.errorPosition(), 9);
        CHECKS.due("empty text", x.parse(0), 0);
        CHECKS.due("people of the empty text", x.size(0), 4);
    }

    private static void parseReplaces() {
        NewsExchange x = Texts.exchange("people 3;line 0 1 both 5;line 1 2 forth 6;broken 0 2 3;away 2 4 5;");
        x.arrange(0);
        x.ring();
        x.cut(1);
        x.tell(2, 0);
        x.saveSnapshot(0);
        x.saveSnapshot(1);
        CHECKS.due("bad text", Texts.parse(x, "people 2;line"), 1);
        CHECKS.due("an error keeps people", x.size(0), 3);
        CHECKS.due("an error keeps lines", x.size(1), 2);
        CHECKS.due("an error keeps breaks", x.isUsable(0, 2), false);
        CHECKS.due("an error keeps rounds", x.size(2), 1);
        CHECKS.due("an error keeps the history", x.undo(), 3);
        CHECKS.due("an error keeps the slots", x.saveSnapshot(1), true);
        CHECKS.due("good text", Texts.parse(x, "people 3;line 0 1 both 5;line 1 2 forth 6;"), 0);
        CHECKS.due("history is cleared", x.undo(), -1);
        CHECKS.dueBadState("slot 0 is empty", () -> x.restoreSnapshot(0));
        CHECKS.due("slot 1 is empty", x.saveSnapshot(1), false);
        CHECKS.due("rounds", x.size(2), 0);
        CHECKS.due("calls", x.size(3), 0);
        CHECKS.due("cut", x.size(5), 0);
        CHECKS.due("arranged", x.arranged(), 0);
        CHECKS.due("spent", x.spent(9999), 0);
        CHECKS.due("missing", x.missing(), 6);
        CHECKS.due("no break of the old text", x.isUsable(0, 2), true);
        CHECKS.due("nobody away of the old text", x.isUsable(1, 4), true);
        CHECKS.due("no number of the old text", x.line(0, 6), 0);
    }

    /** Neither texts that were read before nor those that were wrong leave anything behind. */
    private static void nothingIsLeftOver() {
        NewsExchange x = new NewsExchange();
        String full = "people 10;line 8 9 both 7;line 0 1 both 8;broken 0 1 9;away 0 1 9;";
        for (int time = 1; time <= 4; time++) {
            CHECKS.due("full text", Texts.parse(x, full), 0);
            CHECKS.due("lines of it", x.size(1), 2);
            CHECKS.due("broken of it", x.line(0, 6), 1);
            for (int round = 1; round <= 9; round++) {
                x.ring();
            }
            x.arrange(1);
            CHECKS.due("arranged", x.arranged(), 2);
            if (time % 2 == 0) {
                CHECKS.due("wrong text", Texts.parse(x, full + "?"), 1);
            }
            CHECKS.due("plain text", Texts.parse(x, "line 0 1 both 5;"), 0);
            CHECKS.due("people of it", x.size(0), 4);
            CHECKS.due("lines of it", x.size(1), 1);
            CHECKS.due("broken of it", x.line(0, 6), 0);
            CHECKS.due("usable", x.isUsable(0, 1), true);
            CHECKS.due("not arranged", x.arranged(), 0);
            CHECKS.due("missing", x.missing(), 12);
            CHECKS.due("known", x.known(0), 1);
        }
    }

    private static void good(String text) {
        NewsExchange x = new NewsExchange();
        CHECKS.due("parse of " + text, Texts.parse(x, text), 0);
        CHECKS.due("position of " + text, x.errorPosition(), -1);
    }

    private static void wrong(String text, int code, int position) {
        NewsExchange x = new NewsExchange();
        CHECKS.due("parse of " + text, Texts.parse(x, text), code);
        CHECKS.due("position of " + text, x.errorPosition(), position);
    }

    private static void goodTexts() {
        good("");
        good("   \n \n");
        good("people 2;");
        good("people 10;");
        good("people10;line0 9both0;line9 0forth999;");
        good("people\n0003\n;\nline 2 1 forth 0999 ;");
        good("line 3 0 both 0;broken 0 1 1;broken 0 999 999;away 3 1 999;");
        good("away 0 1 1;line 0 1 both 1;broken 0 1 2;line 0 1 both 2;broken 1 5 0005;");
        good(" people 4 ;");
    }

    private static void wrongTokens() {
        wrong("people 4,", 1, 8);
        wrong("People 4;", 1, 0);
        wrong("\tpeople 4;", 1, 0);
        wrong("people\r4;", 1, 6);
        wrong("people -4;", 1, 7);
        wrong("peoples 4;", 1, 0);
        wrong("peoplesss 4;", 1, 0);
        wrong("peopl 4;", 1, 0);
        wrong("xeople 4;", 1, 0);
        wrong("peoplx 4;", 1, 0);
        wrong("xine 0 1 both 5;", 1, 0);
        wrong("line 0 1 xoth 5;", 1, 9);
        wrong("line 0 1 xorth 5;", 1, 9);
        wrong("line 0 1 both 5;xroken 0 1 1;", 1, 16);
        wrong("xway 0 1 1;", 1, 0);
        wrong("abcdefgh;", 1, 0);
        wrong("abcdefghi;", 1, 0);
        wrong("people 00004;", 1, 7);
        wrong("people four;", 1, 7);
        wrong("people ;", 1, 7);
        wrong("people 4 4;", 1, 9);
        wrong("people 4 line 0 1 both 5;", 1, 9);
        wrong(";", 1, 0);
        wrong("people 4;;", 1, 9);
        wrong("7;", 1, 0);
        wrong("  both;", 1, 2);
        wrong("line 0 both 1 5;", 1, 7);
        wrong("line 0 1 back 5;", 1, 9);
        wrong("line 0 1 people 5;", 1, 9);
        wrong("line 0 1 5;", 1, 9);
        wrong("line 0 1 both;", 1, 13);
        wrong("line 0 1 both 5 5;", 1, 16);
        wrong("line 0 1 both 5;broken 0 1;", 1, 26);
        wrong("line 0 1 both 5;broken 0 1 1 1;", 1, 29);
        wrong("away 0 1;", 1, 8);
        wrong("away 0 1 2 3;", 1, 11);
        wrong("line 0 1 bothforth 5;", 1, 9);
        wrong("line 0 1 bot 5;", 1, 9);
        wrong("broken away 1 1;", 1, 7);
        wrong("people\0004;", 1, 6);
        wrong("people 4;\u007f", 1, 9);
        wrong("people 4;\u00ff", 1, 9);
        wrong("people 4;{", 1, 9);
        wrong("people 4;`", 1, 9);
        wrong("people 4;/", 1, 9);
        wrong("people 4;:", 1, 9);
    }

    private static void latePeople() {
        wrong("people 4;people 4;", 2, 9);
        wrong("line 0 1 both 5; people 4;", 2, 17);
        wrong("away 0 1 1;people", 2, 11);
        wrong("people 11;people 4;", 3, 7);
        wrong("people 4;people", 2, 9);
    }

    private static void ranges() {
        wrong("people 1;", 3, 7);
        wrong("people 0;", 3, 7);
        wrong("people 11;", 3, 7);
        wrong("people 9999", 3, 7);
        wrong("line 4 0 both 5;", 3, 5);
        wrong("line 0 4 both 5;", 3, 7);
        wrong("people 3;line 3 0 both 5;", 3, 14);
        wrong("people 10;line 10 0 both 5;", 3, 15);
        wrong("line 2 2 both 5;", 3, 7);
        wrong("line 2 0002 both 5;", 3, 7);
        wrong("line 0 1 both 1000;", 3, 14);
        wrong("broken 0 1 1;", 3, 7);
        wrong("line 0 1 both 5;broken 1 1 1;", 3, 23);
        wrong("line 0 1 both 5;broken 0 0 1;", 3, 25);
        wrong("line 0 1 both 5;broken 0 1000 1000;", 3, 25);
        wrong("line 0 1 both 5;broken 0 3 2;", 3, 27);
        wrong("line 0 1 both 5;broken 0 3 1000;", 3, 27);
        wrong("away 4 1 1;", 3, 5);
        wrong("people 2;away 2 1 1;", 3, 14);
        wrong("away 0 0 1;", 3, 7);
        wrong("away 0 1000 1000;", 3, 7);
        wrong("away 0 2 1;", 3, 9);
        wrong("away 0 2 1000;", 3, 9);
    }

    private static String times(String text, int count) {
        return text.repeat(count);
    }

    private static void limits() {
        good(times("line 0 1 both 5;", 24));
        wrong(times("line 0 1 both 5;", 25), 4, 384);
        wrong(times("line 0 1 both 5;", 24) + "line ?", 4, 384);
        good("line 0 1 both 5;" + times("broken 0 1 1;", 12));
        wrong("line 0 1 both 5;" + times("broken 0 1 1;", 13), 4, 172);
        good(times("away 0 1 1;", 12));
        wrong(times("away 0 1 1;", 13), 4, 132);
        good("line 0 1 both 5;" + times("broken 0 1 1;away 0 1 1;", 12));
        good(times("line 0 1 both 5;", 24) + "broken 23 1 1;");
        wrong(times("line 0 1 both 5;", 23) + "broken 23 1 1;", 3, 375);
    }

    private static void earlyEnds() {
        wrong("people", 1, 6);
        wrong("people ", 1, 7);
        wrong("people 4", 1, 8);
        wrong("people 4 \n ", 1, 11);
        wrong("line 0 1 both 5;line", 1, 20);
        wrong("line 0", 1, 6);
        wrong("line 0 1", 1, 8);
        wrong("line 0 1 both", 1, 13);
        wrong("line 0 1 both 5", 1, 15);
        wrong("line 0 1 both 5;broken", 1, 22);
        wrong("away", 1, 4);
        wrong("away 0", 1, 6);
        wrong("away 0 1", 1, 8);
        wrong("away 0 1 1", 1, 10);
    }

    private static void smallestCode() {
        // people behind another word is the grammar's fault there, whatever else it is
        wrong("line people 1 both 5;", 1, 5);
        wrong("people people;", 1, 7);
        wrong("away 0 1 1 people 4;", 1, 11);
        wrong("broken 0 1 people;", 3, 7);
        // the first error is told, not the least code
        wrong("people 11 ?", 3, 7);
    }

    private static void errorPosition() {
        NewsExchange x = new NewsExchange();
        CHECKS.due("none yet", x.errorPosition(), -1);
        Texts.parse(x, "people 4;?");
        CHECKS.due("after an error", x.errorPosition(), 9);
        CHECKS.dueBadArgument("parse(-1)", () -> x.parse(-1));
        CHECKS.due("a throw keeps it", x.errorPosition(), 9);
        x.tell(0, 1);
        x.undo();
        CHECKS.due("undo keeps it", x.errorPosition(), 9);
        Texts.parse(x, "people 4;");
        CHECKS.due("after success", x.errorPosition(), -1);
    }

    private static void sizes() {
        NewsExchange x = Texts.exchange("people 5;line 0 1 both 1;line 2 3 both 2;line 3 4 both 3;");
        x.arrange(0);
        x.arrange(1);
        CHECKS.due("arranged", x.size(4), 2);
        x.ring();
        x.arrange(2);
        x.cut(0);
        x.cut(1);
        x.ring();
        CHECKS.due("people", x.size(0), 5);
        CHECKS.due("lines", x.size(1), 3);
        CHECKS.due("rounds", x.size(2), 2);
        CHECKS.due("calls", x.size(3), 3);
        CHECKS.due("arranged", x.size(4), 0);
        CHECKS.due("cut", x.size(5), 2);
        CHECKS.dueBadArgument("size(-1)", () -> x.size(-1));
        CHECKS.dueBadArgument("size(6)", () -> x.size(6));
        CHECKS.dueBadArgument("size(min)", () -> x.size(Integer.MIN_VALUE));
    }

    private static void lines() {
        NewsExchange x = Texts.exchange("people 5;line 4 1 both 999;line 2 3 forth 0;"
            + "broken 1 1 1;broken 1 1 1;broken 0 5 6;broken 1 7 8;");
        CHECKS.due("first", x.line(0, 0), 4);
        CHECKS.due("second", x.line(0, 1), 1);
        CHECKS.due("both", x.line(0, 2), 0);
        CHECKS.due("cost", x.line(0, 3), 999);
        CHECKS.due("not cut", x.line(0, 4), 0);
        CHECKS.due("not arranged", x.line(0, 5), 0);
        CHECKS.due("broken", x.line(0, 6), 1);
        CHECKS.due("first", x.line(1, 0), 2);
        CHECKS.due("second", x.line(1, 1), 3);
        CHECKS.due("forth", x.line(1, 2), 1);
        CHECKS.due("cost", x.line(1, 3), 0);
        CHECKS.due("broken", x.line(1, 6), 3);
        x.arrange(0);
        x.cut(1);
        CHECKS.due("arranged", x.line(0, 5), 1);
        CHECKS.due("cut", x.line(1, 4), 1);
        CHECKS.dueNoPlace("line(2, 0)", () -> x.line(2, 0));
        CHECKS.dueNoPlace("line(-1, 0)", () -> x.line(-1, 0));
        CHECKS.dueNoPlace("line(2, 7), the line first", () -> x.line(2, 7));
        CHECKS.dueBadArgument("line(0, 7)", () -> x.line(0, 7));
        CHECKS.dueBadArgument("line(0, -1)", () -> x.line(0, -1));
        NewsExchange none = new NewsExchange();
        CHECKS.dueNoPlace("line(0, 0) without lines", () -> none.line(0, 0));
    }

    private static void usable() {
        NewsExchange x = Texts.exchange("line 0 1 both 1;line 1 2 forth 1;"
            + "broken 0 3 5;broken 0 9 9;away 1 20 30;away 2 999 999;");
        CHECKS.due("before a break", x.isUsable(0, 2), true);
        CHECKS.due("first of a break", x.isUsable(0, 3), false);
        CHECKS.due("last of a break", x.isUsable(0, 5), false);
        CHECKS.due("behind a break", x.isUsable(0, 6), true);
        CHECKS.due("another break", x.isUsable(0, 9), false);
        CHECKS.due("the other line", x.isUsable(1, 3), true);
        CHECKS.due("before away", x.isUsable(0, 19), true);
        CHECKS.due("first of away", x.isUsable(0, 20), false);
        CHECKS.due("last of away", x.isUsable(1, 30), false);
        CHECKS.due("behind away", x.isUsable(0, 31), true);
        CHECKS.due("second person away", x.isUsable(1, 999), false);
        CHECKS.due("neither person away", x.isUsable(0, 999), true);
        CHECKS.due("round 9999", x.isUsable(1, 9999), true);
        CHECKS.dueBadArgument("round 0", () -> x.isUsable(0, 0) ? 1 : 0);
        CHECKS.dueBadArgument("round 10000", () -> x.isUsable(0, 10000) ? 1 : 0);
        CHECKS.dueNoPlace("the line first", () -> x.isUsable(2, 0) ? 1 : 0);
        CHECKS.dueNoPlace("line -1", () -> x.isUsable(-1, 1) ? 1 : 0);
        x.cut(0);
        CHECKS.due("cut", x.isUsable(0, 1), false);
        CHECKS.due("the other is not", x.isUsable(1, 1), true);
    }

    private static void cheapestLine() {
        NewsExchange x = Texts.exchange("line 0 1 both 7;line 1 2 forth 3;line 0 1 both 7;line 2 3 both 0;line 0 3 both 3;");
        int[] order = {3, 1, 4, 0, 2};
        for (int k = 0; k < 5; k++) {
            CHECKS.due("cheapestLine", x.cheapestLine(k), order[k]);
        }
        CHECKS.due("too far", x.cheapestLine(5), -1);
        CHECKS.due("negative", x.cheapestLine(-1), -1);
        CHECKS.due("least", x.cheapestLine(Integer.MIN_VALUE), -1);
        CHECKS.due("greatest", x.cheapestLine(Integer.MAX_VALUE), -1);
        x.cut(3);
        CHECKS.due("cut lines too", x.cheapestLine(0), 3);
    }
}
