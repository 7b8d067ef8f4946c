import java.nio.charset.StandardCharsets;

/**
 * The boundary cases of the exchange text and of promises 1 to 4: for each sentence the least and
 * the greatest that is allowed, the first ones beyond, nothing, everything full, what is refused.
 */
public final class TextBoundsTest {
    private static final Checks CHECKS = new Checks("TextBoundsTest");
    private static final int SPACES = 0x20202020;

    public static void main(String[] args) {
        promise1NewObject();
        promise2Append();
        promise2Bytes();
        promise2Refused();
        promise3Length();
        promise3Refused();
        promise3Error();
        promise3Success();
        promise4Position();
        textOfAtMost500Bytes();
        emptyText();
        separators();
        everyByteForASeparator();
        everyByteForASemicolon();
        wordOf1To8Letters();
        numberOf1To4Digits();
        everyPrefix();
        fourPeopleWithoutTheStatement();
        peopleOnceAndFirst();
        many();
        persons();
        notTheSamePerson();
        kinds();
        cost();
        atMost24Lines();
        lineDeclaredBefore();
        firstAndLast();
        atMost12Broken();
        atMost12Away();
        allFull();
        severalLinesOfTheSamePersons();
        smallestPosition();
        smallestCode();
        CHECKS.end();
    }

    private static void due(String text, int code, int position) {
        NewsExchange x = new NewsExchange();
        CHECKS.due("parse of " + text, Texts.parse(x, text), code);
        CHECKS.due("position of " + text, x.errorPosition(), position);
    }

    private static void good(String text) {
        due(text, 0, -1);
    }

    /** A text whose last piece in <> is the wrong token. */
    private static void wrongAt(String marked, int code) {
        due(marked.replace("<", "").replace(">", ""), code, marked.indexOf('<'));
    }

    /** A number at a place: in range it is good, else its error stands at it. */
    private static void number(String before, int number, String behind, boolean inRange) {
        if (inRange) {
            good(before + number + behind);
        } else {
            due(before + number + behind, 3, before.length());
        }
    }

    private static void promise1NewObject() {
        NewsExchange x = new NewsExchange();
        CHECKS.due("people", x.size(0), 4);
        CHECKS.due("lines", x.size(1), 0);
        CHECKS.due("person 3", x.known(3), 8);
        CHECKS.dueNoPlace("person 4", () -> x.known(4));
        CHECKS.dueNoPlace("line 0", () -> x.line(0, 0));
        CHECKS.dueBadArgument("the buffer is empty", () -> x.parse(1));
        CHECKS.due("no error yet", x.errorPosition(), NewsExchange.NONE);
        CHECKS.due("nothing to undo", x.undo(), NewsExchange.NONE);
        CHECKS.dueBadState("slot 0 is empty", () -> x.restoreSnapshot(0));
        CHECKS.dueBadState("slot 1 is empty", () -> x.restoreSnapshot(1));
        CHECKS.due("the empty buffer can be parsed", x.parse(0), 0);
    }

    private static void promise2Append() {
        NewsExchange x = new NewsExchange();
        CHECKS.due("the first", x.append(0, 0, 0, 0, 0), 20);
        for (int length = 40; length <= 480; length += 20) {
            CHECKS.due("append", x.append(0, -1, Integer.MIN_VALUE, Integer.MAX_VALUE, 1), length);
        }
        CHECKS.due("500 is not beyond", x.append(0, 0, 0, 0, 0), 500);
        CHECKS.due("520 is", x.append(0, 0, 0, 0, 0), NewsExchange.NONE);
        CHECKS.due("and stays it", x.append(0, 0, 0, 0, 0), NewsExchange.NONE);
    }

    /** Each of the 20 places, and all the values that a byte has there. */
    private static void promise2Bytes() {
        for (int place = 0; place < 20; place++) {
            for (int value = 0; value < 256; value += place == 7 ? 1 : 51) {
                int[] words = {SPACES, SPACES, SPACES, SPACES, SPACES};
                int shift = 24 - 8 * (place % 4);
                words[place / 4] = words[place / 4] & ~(255 << shift) | value << shift;
                NewsExchange x = new NewsExchange();
                x.append(words[0], words[1], words[2], words[3], words[4]);
                boolean fine = value == ' ' || value == '\n';
                CHECKS.due("byte " + value + " at " + place, x.parse(20), fine ? 0 : 1);
                CHECKS.due("its position", x.errorPosition(), fine ? -1 : place);
            }
        }
    }

    private static void promise2Refused() {
        new Twins(CHECKS, () -> {
            NewsExchange x = new NewsExchange();
            Texts.parse(x, "?");
            Texts.append(x, " ".repeat(480) + "people 2;");
            return x;
        }).answering("append to a full buffer", NewsExchange.NONE, x -> x.append(-1, -1, -1, -1, -1));
    }

    private static void promise3Length() {
        for (int length : new int[] {Integer.MIN_VALUE, -2, -1, 1, 2, 500, Integer.MAX_VALUE}) {
            NewsExchange x = new NewsExchange();
            CHECKS.dueBadArgument("empty buffer, parse(" + length + ")", () -> x.parse(length));
        }
        for (int length : new int[] {Integer.MIN_VALUE, -1, 21, 40, 500, 501, Integer.MAX_VALUE}) {
            NewsExchange x = new NewsExchange();
            Texts.append(x, "people 3;");
            CHECKS.dueBadArgument("20 bytes, parse(" + length + ")", () -> x.parse(length));
        }
        for (int length : new int[] {0, 9, 10, 19, 20}) {
            NewsExchange x = new NewsExchange();
            Texts.append(x, "people 3;");
            CHECKS.due("20 bytes, parse(" + length + ")", x.parse(length), 0);
            CHECKS.due("people", x.size(0), length == 0 ? 4 : 3);
            CHECKS.dueBadArgument("all of the buffer is gone", () -> x.parse(1));
            CHECKS.due("append begins anew", x.append(SPACES, SPACES, SPACES, SPACES, SPACES), 20);
        }
        NewsExchange full = new NewsExchange();
        Texts.append(full, " ".repeat(500));
        CHECKS.dueBadArgument("full buffer, parse(501)", () -> full.parse(501));
        CHECKS.due("full buffer, parse(500)", full.parse(500), 0);
    }

    private static NewsExchange busy() {
        NewsExchange x = Texts.exchange("people 4;line 0 1 both 3;line 2 3 both 4;line 0 2 forth 5;broken 2 1 2;away 3 3 3;");
        x.arrange(0);
        x.ring();
        x.saveSnapshot(1);
        x.cut(2);
        x.arrange(1);
        x.tell(0, 3);
        return x;
    }

    private static void promise3Refused() {
        Twins twins = new Twins(CHECKS, () -> {
            NewsExchange x = busy();
            Texts.parse(x, "people 11");
            Texts.append(x, "people 3;line 0 1 both 5;?");
            return x;
        });
        twins.badArgument("parse(-1)", x -> x.parse(-1));
        twins.badArgument("parse(41)", x -> x.parse(41));
    }

    /** On a parse error nothing changes except that the buffer is emptied. */
    private static void promise3Error() {
        String[] texts = {"?", "people 10;?", "people 2;people 2;", "line 0 1 both 7;line 0 0 both 7;",
            "people 3;line 0 1 both 9;broken 0 1 999;away 0 1 999;line", "away 0 1 9;".repeat(13)};
        String want = Twins.standing(busy());
        for (String text : texts) {
            NewsExchange x = busy();
            CHECKS.due("it is wrong", Texts.parse(x, text) > 0, true);
            CHECKS.dueBadArgument("the buffer is emptied", () -> x.parse(1));
            CHECKS.due("nothing else by " + text, Twins.standing(x).equals(want), true);
        }
    }

    /** A successful parse restores the initial situation, clears the undo history and empties both slots. */
    private static void promise3Success() {
        String text = "people 3;line 0 1 both 5;line 1 2 forth 6;";
        String want = Twins.story(Texts.exchange(text));
        NewsExchange x = busy();
        x.saveSnapshot(0);
        Texts.parse(x, text);
        CHECKS.due("as a new one", Twins.story(x).equals(want), true);
        NewsExchange y = busy();
        y.parse(0);
        CHECKS.due("the empty text too", Twins.story(y).equals(Twins.story(new NewsExchange())), true);
    }

    private static void promise4Position() {
        NewsExchange x = new NewsExchange();
        CHECKS.dueBadArgument("a throw", () -> x.parse(1));
        CHECKS.due("is no call of parse here", x.errorPosition(), NewsExchange.NONE);
        Texts.parse(x, "?");
        CHECKS.due("the least", x.errorPosition(), 0);
        CHECKS.dueBadArgument("a throw", () -> x.parse(1));
        CHECKS.due("the error before it", x.errorPosition(), 0);
        Texts.parse(x, " ".repeat(499) + "?");
        CHECKS.due("the last byte", x.errorPosition(), 499);
        Texts.parse(x, "people" + " ".repeat(494));
        CHECKS.due("the end of the longest text", x.errorPosition(), 500);
        Texts.parse(x, "people 2");
        CHECKS.due("the latest error", x.errorPosition(), 8);
        x.parse(0);
        CHECKS.due("a success", x.errorPosition(), NewsExchange.NONE);
        CHECKS.dueBadArgument("a throw", () -> x.parse(-1));
        CHECKS.due("the success before it", x.errorPosition(), NewsExchange.NONE);
    }

    private static void textOfAtMost500Bytes() {
        String lines = "line 0 1 both 5;".repeat(24);
        String last = "away 0 1 1;";
        NewsExchange x = Texts.exchange(lines + " ".repeat(500 - lines.length() - last.length()) + last);
        CHECKS.due("lines of the longest text", x.size(1), 24);
        CHECKS.due("its last statement", x.isUsable(23, 1), false);
        due(lines + " ".repeat(499 - lines.length()) + "a", 1, 499);
        due(" ".repeat(491) + "people 11", 3, 498);
        due("a".repeat(500), 1, 0);
        due("7".repeat(500), 1, 0);
        due(";".repeat(500), 1, 0);
    }

    private static void emptyText() {
        for (String text : new String[] {"", " ", "\n", " \n \n ", " ".repeat(500), "\n".repeat(500)}) {
            NewsExchange x = Texts.exchange("people 9;line 7 8 both 1;");
            CHECKS.due("no statement", Texts.parse(x, text), 0);
            CHECKS.due("4 people", x.size(0), 4);
            CHECKS.due("no lines", x.size(1), 0);
        }
    }

    private static void separators() {
        String spaced = "people#3#;#line#0#1#both#5#;#broken#0#1#2#;#away#2#1#2#;";
        for (String separator : new String[] {" ", "\n", "  ", "\n\n", " \n", "\n "}) {
            good(spaced.replace("#", separator));
            good(separator + spaced.replace("#", separator) + separator);
        }
        good("people3;line0 1both5;broken0 1 2;away2 1 2;");
        good("people\n3;line\n0\n1\nboth\n5;broken\n0\n1\n2;away\n2\n1\n2;");
        // what separates tokens also keeps them apart, and what is missing does not
        wrongAt("people <1> 0;", 3);
        wrongAt("<peo> ple 4;", 1);
        wrongAt("line 01 <both> 5;", 1);
        wrongAt("<peopleline> 4;", 1);
    }

    /** Space and line feed separate; any other byte that starts no token is invalid by itself. */
    private static void everyByteForASeparator() {
        for (int value = 0; value < 256; value++) {
            String sign = new String(new byte[] {(byte) value}, StandardCharsets.ISO_8859_1);
            boolean separates = value == 32 || value == 10;
            due("people 4;" + sign, separates ? 0 : 1, separates ? -1 : 9);
            if (value >= 'a' && value <= 'z') {
                due("people" + sign + "4;", 1, 0);
            } else if (value > '0' && value <= '9') {
                due("people" + sign + "4;", 3, 6);
            } else if (value == '0' || separates) {
                good("people" + sign + "4;");
            } else {
                due("people" + sign + "4;", 1, 6);
            }
        }
    }

    /** No other byte ends a statement. */
    private static void everyByteForASemicolon() {
        for (int value = 0; value < 256; value++) {
            String sign = new String(new byte[] {(byte) value}, StandardCharsets.ISO_8859_1);
            boolean longer = value >= '0' && value <= '9';
            if (value == ';') {
                good("line 0 1 both 5" + sign);
            } else if (longer || value == 32 || value == 10) {
                due("line 0 1 both 5" + sign, 1, 16);
            } else {
                due("line 0 1 both 5" + sign, 1, 15);
            }
        }
    }

    /** A word is the longest run of letters, so that neither a part nor a longer run is the word. */
    private static void wordOf1To8Letters() {
        for (String word : new String[] {"people", "line", "broken", "away"}) {
            due(word.substring(0, word.length() - 1) + " 0 1 1;", 1, 0);
            due(word.substring(1) + " 0 1 1;", 1, 0);
            due(word + "s 0 1 1;", 1, 0);
            due(word + word + word + " 0 1 1;", 1, 0);
            due(word.toUpperCase() + " 0 1 1;", 1, 0);
        }
        for (String kind : new String[] {"bot", "oth", "bothh", "bothboth", "bothbothb", "fort", "forths", "b", "z", "forthbot", "forthboth"}) {
            due("line 0 1 " + kind + " 5;", 1, 9);
        }
        due("people 4;a", 1, 9);
        due("people 4;z;", 1, 9);
        due("people 4;abcdefgh", 1, 9);
        due("people 4;abcdefghi", 1, 9);
    }

    private static final String[] NUMBER_PLACES = {
        "people #;", "line # 1 both 5;", "line 1 # both 5;", "line 0 1 both #;",
        "line 0 1 both 5;line 1 2 both 5;line 2 3 both 5;broken # 2 3;", "line 0 1 both 5;broken 0 # 3;",
        "line 0 1 both 5;broken 0 2 #;", "away # 2 3;", "away 0 # 3;", "away 0 2 #;",
    };

    /** 2 is in range at all these places: with four digits it is a number, with five no token. */
    private static void numberOf1To4Digits() {
        for (String text : NUMBER_PLACES) {
            int place = text.indexOf('#');
            good(text.replace("#", "2"));
            good(text.replace("#", "02"));
            good(text.replace("#", "002"));
            good(text.replace("#", "0002"));
            due(text.replace("#", "00002"), 1, place);
            due(text.replace("#", "000000002"), 1, place);
            due(text.replace("#", "9999"), 3, place);
            due(text.replace("#", "10000"), 1, place);
            due(text.replace("#", "4294967298"), 1, place);
            due(text.replace("#", "-2"), 1, place);
            due(text.replace("#", "x"), 1, place);
            due(text.replace("#", ";"), 1, place);
            due(text.replace("#", "people"), 1, place);
            due(text.substring(0, place), 1, place);
        }
    }

    /** A text that ends too early: at its length, but a word that is cut at the word. */
    private static void everyPrefix() {
        String text = "people 3 ;\nline 0 1 both 5 ; line 1 2 forth 7;broken 1 2 3 ;away 2 4 5; ";
        for (int length = 0; length <= text.length(); length++) {
            String prefix = text.substring(0, length);
            String end = prefix.trim();
            int word = end.length();
            while (word > 0 && end.charAt(word - 1) >= 'a') {
                word--;
            }
            boolean cut = prefix.equals(end) && word < length && text.charAt(length) >= 'a';
            if (end.isEmpty() || end.endsWith(";")) {
                good(prefix);
            } else {
                due(prefix, 1, cut ? word : length);
            }
        }
    }

    private static void fourPeopleWithoutTheStatement() {
        good("line 0 3 both 5;away 3 1 1;");
        wrongAt("line 0 <4> both 5;", 3);
        wrongAt("line <4> 0 both 5;", 3);
        wrongAt("away <4> 1 1;", 3);
        CHECKS.due("people", Texts.exchange("line 0 3 both 5;").size(0), 4);
    }

    private static void peopleOnceAndFirst() {
        good("people 4;");
        good("\n people 4;");
        wrongAt("people 4;<people> 4;", 2);
        wrongAt("people 4;<people>", 2);
        wrongAt("people 4; \n<people> 11;", 2);
        wrongAt("line 0 1 both 5;<people> 4;", 2);
        wrongAt("line 0 1 both 5;broken 0 1 1;<people> 4;", 2);
        wrongAt("away 0 1 1;<people> 4;", 2);
        wrongAt("people 4;line 0 1 both 5;<people> 4;", 2);
    }

    private static void many() {
        for (int many = 0; many <= 13; many++) {
            number("people ", many, ";", many >= 2 && many <= 10);
            if (many >= 2 && many <= 10) {
                CHECKS.due("people", Texts.exchange("people " + many + ";").size(0), many);
            }
        }
        number("people ", 9999, ";", false);
        wrongAt("people <;>", 1);
        wrongAt("people 4 <4>;", 1);
    }

    private static void persons() {
        for (int many = 2; many <= 10; many++) {
            String people = "people " + many + ";";
            for (int person = 0; person <= many + 1; person++) {
                boolean inRange = person < many;
                number(people + "line ", person, person == 0 ? " 1 both 5;" : " 0 both 5;", inRange);
                number(people + (person == 0 ? "line 1 " : "line 0 "), person, " both 5;", inRange);
                number(people + "away ", person, " 1 1;", inRange);
            }
        }
        number("people 10;line ", 9999, " 0 both 5;", false);
        number("people 10;line 0 ", 9999, " both 5;", false);
        number("people 10;away ", 9999, " 1 1;", false);
    }

    private static void notTheSamePerson() {
        for (int person = 0; person < 10; person++) {
            number("people 10;line " + person + " ", person, " both 5;", false);
            number("people 10;line " + person + " ", person, " forth 5;", false);
            number("people 10;line " + person + " ", (person + 1) % 10, " both 5;", true);
            due("people 10;line " + person + " 000" + person + "?", 3, 17);
        }
    }

    private static void kinds() {
        NewsExchange x = Texts.exchange("line 0 1 both 5;line 0 1 forth 5;");
        CHECKS.due("both", x.line(0, 2), 0);
        CHECKS.due("forth", x.line(1, 2), 1);
        for (String other : new String[] {"line", "people", "away", "broken", ";", "1", "00001", "?"}) {
            wrongAt("line 0 1 <" + other + "> 5;", 1);
        }
        wrongAt("line 0 1 both <forth> 5;", 1);
        wrongAt("line 0 1 both <both> 5;", 1);
    }

    private static void cost() {
        for (int cost : new int[] {0, 1, 9, 10, 99, 100, 998, 999, 1000, 1001, 9999}) {
            number("line 0 1 both ", cost, ";", cost <= 999);
            number("line 0 1 forth ", cost, ";", cost <= 999);
            if (cost <= 999) {
                CHECKS.due("cost", Texts.exchange("line 0 1 both " + cost + ";").line(0, 3), cost);
            }
        }
    }

    private static void atMost24Lines() {
        StringBuilder lines = new StringBuilder();
        for (int line = 0; line < 24; line++) {
            lines.append("line 0 1 both ").append(line).append(";");
            NewsExchange x = Texts.exchange(lines.toString());
            CHECKS.due("lines", x.size(1), line + 1);
            CHECKS.due("in the order of the text", x.line(line, 3), line);
            CHECKS.dueNoPlace("no more", () -> x.line(x.size(1), 3));
        }
        wrongAt(lines + "<line> 0 1 both 5;", 4);
        wrongAt(lines + "<line>", 4);
        wrongAt(lines + "<line> line", 4);
        wrongAt(lines + " <lines> 0 1 both 5;", 1);
        wrongAt(lines + "broken 0 1 1;away 0 1 1;\n<line> 0 1 both 5;", 4);
    }

    private static void lineDeclaredBefore() {
        wrongAt("broken <0> 1 1;", 3);
        wrongAt("broken <0> 1 1;line 0 1 both 5;", 3);
        StringBuilder lines = new StringBuilder();
        for (int line = 0; line < 24; line++) {
            number(lines + "broken ", line, " 1 1;", false);
            lines.append("line 0 1 both 5;");
            number(lines + "broken ", line, " 1 1;", true);
            number(lines + "broken ", 0, " 1 1;", true);
        }
        number(lines + "broken ", 24, " 1 1;", false);
        number(lines + "broken ", 9999, " 1 1;", false);
    }

    private static void firstAndLast() {
        for (String before : new String[] {"line 0 1 both 5;broken 0 ", "away 0 "}) {
            for (int first : new int[] {0, 1, 2, 500, 998, 999, 1000, 1001, 9999}) {
                boolean fine = first >= 1 && first <= 999;
                number(before, first, " 999;", fine);
                for (int last : new int[] {0, 1, 2, 499, 500, 501, 998, 999, 1000, 9999}) {
                    if (fine) {
                        number(before + first + " ", last, ";", last >= first && last <= 999);
                    } else {
                        due(before + first + " " + last + ";", 3, before.length());
                    }
                }
            }
        }
    }

    private static void atMost12Broken() {
        String line = "line 0 1 both 5;";
        for (int count = 0; count <= 12; count++) {
            NewsExchange x = Texts.exchange(line + "broken 0 1 1;".repeat(count));
            CHECKS.due("broken", x.line(0, 6), count);
        }
        wrongAt(line + "broken 0 1 1;".repeat(12) + "<broken> 0 1 1;", 4);
        wrongAt(line + "broken 0 1 1;".repeat(12) + "<broken>", 4);
        wrongAt(line + "broken 0 1 1;".repeat(12) + "<broken> 9 0 0;", 4);
        wrongAt(line + "broken 0 1 1;".repeat(12) + "away 0 1 1;line 0 1 both 5;<broken> 0 1 1;", 4);
        good(line + "broken 0 1 1;".repeat(12) + "away 0 1 1;line 0 1 both 5;");
        StringBuilder different = new StringBuilder(line + line);
        for (int i = 0; i < 12; i++) {
            different.append("broken ").append(i % 2).append(" 1 1;");
        }
        good(different.toString());
        wrongAt(different + "<broken> 1 1 1;", 4);
    }

    private static void atMost12Away() {
        for (int count = 0; count <= 12; count++) {
            good("away 0 1 1;".repeat(count));
        }
        wrongAt("away 0 1 1;".repeat(12) + "<away> 0 1 1;", 4);
        wrongAt("away 0 1 1;".repeat(12) + "<away>", 4);
        wrongAt("away 0 1 1;".repeat(12) + "<away> 9 0 0;", 4);
        wrongAt("away 0 1 1;".repeat(12) + "line 0 1 both 5;broken 0 1 1;<away> 0 1 1;", 4);
        wrongAt("people 10;away 0 1 1;away 1 1 1;away 2 1 1;away 3 1 1;away 4 1 1;away 5 1 1;away 6 1 1;away 7 1 1;"
            + "away 8 1 1;away 9 1 1;away 0 1 1;away 0 1 1;<away> 0 1 1;", 4);
    }

    /** The limits are each by itself: 24 lines, 12 broken and as many away as 500 bytes hold. */
    private static void allFull() {
        StringBuilder text = new StringBuilder("people10;");
        for (int line = 0; line < 24; line++) {
            text.append("line8 9both9;");
        }
        for (int i = 0; i < 12; i++) {
            text.append("broken").append(i).append(" 1 ").append(i + 1).append(";");
        }
        text.append("away7 2 3;");
        NewsExchange x = Texts.exchange(text + " ".repeat(500 - text.length()));
        CHECKS.due("people", x.size(0), 10);
        CHECKS.due("lines", x.size(1), 24);
        for (int line = 0; line < 24; line++) {
            CHECKS.due("broken", x.line(line, 6), line < 12 ? 1 : 0);
            CHECKS.due("its last round", x.isUsable(line, line + 1), line >= 12);
            CHECKS.due("the round behind it", x.isUsable(line, line + 2), true);
        }
        good("line 0 1 both 5;" + "broken 0 1 1;away 0 1 1;".repeat(12));
        wrongAt(text + "<line> 0 1 both 5;", 4);
        wrongAt(text + "<broken> 0 1 1;", 4);
    }

    private static void severalLinesOfTheSamePersons() {
        NewsExchange x = Texts.exchange("people 2;" + "line 0 1 both 5;line 1 0 forth 5;".repeat(12));
        CHECKS.due("lines", x.size(1), 24);
        CHECKS.due("the last one", x.line(23, 0), 1);
        CHECKS.due("arrange the last one", x.arrange(23), 1);
        CHECKS.dueBadState("not two at once", () -> x.arrange(22));
    }

    /** The error with the smallest position is reported, whatever its code. */
    private static void smallestPosition() {
        wrongAt("people <11>?", 3);
        wrongAt("people <11>;people 4;", 3);
        wrongAt("people 4;<people> ?", 2);
        wrongAt("away 0 <0> 0;?", 3);
        wrongAt("away <9> 0 0", 3);
        wrongAt("line 0 <0> bath 1000;", 3);
        wrongAt("line <4> 4 both 5;", 3);
        wrongAt("line 0 1 both <1000>", 3);
        wrongAt("away 0 1 1;".repeat(12) + "<away> ? people 11", 4);
        wrongAt("line 0 1 <?>both 5;people 4", 1);
    }

    /** Of several codes at one position the smallest: 1 is ahead of 2, 3 and 4. */
    private static void smallestCode() {
        wrongAt("people <people> 4;", 1);
        wrongAt("people 4<people> 4;", 1);
        wrongAt("line <people> 1 both 5;", 1);
        wrongAt("line 0 1 both 5<people>", 1);
        wrongAt("away 0 1 1;".repeat(12) + "line 0 <away> both 5;", 1);
        wrongAt("line 0 1 both 5;".repeat(24) + "away 0 1 <line>;", 1);
        wrongAt("line 0 1 both 5;".repeat(24) + "away 0 1 1<line>;", 1);
        wrongAt("line 0 1 both 5;" + "broken 0 1 1;".repeat(12) + "away <broken> 1 1;", 1);
        wrongAt("people <411>;", 3);
        wrongAt("people 4 <11>;", 1);
        wrongAt("<9999>;", 1);
        wrongAt("people <10000>;", 1);
        wrongAt("line 0 1 both 5 <1000>;", 1);
    }
}
