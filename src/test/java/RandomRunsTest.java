import java.nio.charset.StandardCharsets;
import java.util.Arrays;
import java.util.Random;

/** Runs of calls, the same ones each time, answered by the program and by PlainExchange. */
public final class RandomRunsTest {
    private static final int[] ODD = {-1, 0, 1, 2, 3, 9, 10, 24, 60, 9999, 10000, Integer.MAX_VALUE, Integer.MIN_VALUE};
    private static final int CALLS = 512;

    private final Random random;
    private final int seed;
    private final NewsExchange program = new NewsExchange();
    private final PlainExchange plain = new PlainExchange();
    private int people = 4;
    private int lines = 0;
    private String latest = "";
    private int calls = 0;

    private RandomRunsTest(int seed) {
        this.seed = seed;
        random = new Random(seed);
    }

    public static void main(String[] args) {
        int runs = args.length > 0 ? Integer.parseInt(args[0]) : 150;
        int first = args.length > 1 ? Integer.parseInt(args[1]) : 1;
        for (int seed = first; seed < first + runs; seed++) {
            new RandomRunsTest(seed).run();
        }
        System.out.println("RandomRunsTest: " + runs + " runs, 0 wrong");
    }

    private interface Answer {
        long get();
    }

    private static String outcome(Answer answer) {
        try {
            return Long.toString(answer.get());
        } catch (IllegalArgumentException | IllegalStateException | IndexOutOfBoundsException e) {
            boolean thrown = e.getStackTrace().length > 0 && !e.getStackTrace()[0].getClassName().startsWith("java");
            return thrown ? e.getClass().getName() : "the machine's " + e;
        } catch (RuntimeException e) {
            return "the machine's " + e;
        }
    }

    private void same(String call, Answer got, Answer want) {
        calls++;
        latest = call;
        String due = outcome(want);
        String is = outcome(got);
        if (!is.equals(due)) {
            System.out.println("RandomRunsTest: seed " + seed + ", call " + calls + ": " + latest + " answered " + is + ", due is " + due);
            System.exit(1);
        }
    }

    private void run() {
        if (random.nextInt(20) > 0) {
            parseText(text());
        }
        while (calls < CALLS) {
            if (random.nextInt(150) == 0) {
                parseText(random.nextBoolean() ? text() : spoiled(text()));
            } else if (random.nextInt(3) > 0) {
                change();
            } else {
                question();
            }
        }
    }

    private void parseText(String text) {
        byte[] bytes = text.getBytes(StandardCharsets.ISO_8859_1);
        byte[] full = Arrays.copyOf(bytes, (bytes.length + 19) / 20 * 20);
        for (int i = 0; i < full.length; i += 20) {
            int[] w = new int[5];
            for (int k = 0; k < 5; k++) {
                w[k] = Texts.four(full, i + 4 * k);
            }
            same("append", () -> program.append(w[0], w[1], w[2], w[3], w[4]), () -> plain.append(w));
        }
        int length = random.nextInt(30) == 0 ? odd() : Math.min(500, text.length());
        same("parse(" + length + ") of " + text, () -> program.parse(length), () -> plain.parse(length));
        same("errorPosition()", program::errorPosition, plain::errorPosition);
        people = plain.size(0);
        lines = plain.size(1);
    }

    private String gap() {
        return random.nextInt(8) == 0 ? " \n" : " ";
    }

    private String text() {
        int many = random.nextInt(4) == 0 ? 4 : 2 + random.nextInt(9);
        if (random.nextInt(3) == 0) {
            many = 2 + random.nextInt(5);
        }
        int lineCount = random.nextInt(3) == 0 ? random.nextInt(26) : random.nextInt(13);
        StringBuilder text = new StringBuilder();
        if (many != 4 || random.nextBoolean()) {
            text.append("people").append(gap()).append(many).append(";");
        }
        int costs = random.nextBoolean() ? 3 : 1000;
        for (int line = 0; line < lineCount; line++) {
            int from = random.nextInt(many);
            int to = (from + 1 + random.nextInt(many - 1)) % many;
            text.append("line ").append(from).append(gap()).append(to);
            text.append(random.nextInt(3) == 0 ? "forth" : "both").append(random.nextInt(costs)).append(";");
            while (random.nextInt(8) == 0) {
                int first = 1 + random.nextInt(6);
                text.append("broken ").append(random.nextInt(line + 1)).append(" ").append(first).append(gap());
                text.append(first + random.nextInt(random.nextBoolean() ? 3 : 50)).append(";");
            }
        }
        while (random.nextInt(2) == 0) {
            int first = 1 + random.nextInt(6);
            text.append("away ").append(random.nextInt(many)).append(" ").append(first).append(gap());
            text.append(first + random.nextInt(random.nextBoolean() ? 3 : 50)).append(";");
        }
        return text.toString();
    }

    private String spoiled(String text) {
        StringBuilder spoiled = new StringBuilder(text);
        String[] pieces = {"people", ";", "5", "11", "999", "1000", "99999", "both", "forth", "line", "away", "broken", "?", "A", "\u00e9", " ", "\n", "\t"};
        int times = 1 + random.nextInt(2);
        for (int i = 0; i < times; i++) {
            int at = random.nextInt(spoiled.length() + 1);
            if (random.nextBoolean() && at < spoiled.length()) {
                spoiled.delete(at, Math.min(spoiled.length(), at + 1 + random.nextInt(4)));
            } else {
                spoiled.insert(at, pieces[random.nextInt(pieces.length)]);
            }
        }
        return spoiled.toString();
    }

    private int odd() {
        return ODD[random.nextInt(ODD.length)];
    }

    private int upTo(int count) {
        return random.nextInt(25) == 0 || count == 0 ? odd() : random.nextInt(count);
    }

    private void change() {
        int line = upTo(lines);
        int person = upTo(people);
        int piece = upTo(people);
        int slot = upTo(2);
        switch (random.nextInt(random.nextInt(4) == 0 ? 16 : 11)) {
            case 0, 1, 2, 3 -> same("arrange(" + line + ")", () -> program.arrange(line), () -> plain.arrange(line));
            case 4 -> same("takeBack(" + line + ")", () -> program.takeBack(line), () -> plain.takeBack(line));
            case 5 -> same("arrangeBest()", program::arrangeBest, plain::arrangeBest);
            case 6 -> same("ring()", program::ring, plain::ring);
            case 7 -> same("cut(" + line + ")", () -> program.cut(line) ? 1 : 0, () -> plain.cut(line) ? 1 : 0);
            case 8, 9 -> same("mend(" + line + ")", () -> program.mend(line), () -> plain.mend(line));
            case 10, 11, 12 -> same("undo()", program::undo, plain::undo);
            case 13 -> same("saveSnapshot(" + slot + ")", () -> program.saveSnapshot(slot) ? 1 : 0, () -> plain.saveSnapshot(slot) ? 1 : 0);
            case 14 -> same("restoreSnapshot(" + slot + ")", () -> program.restoreSnapshot(slot), () -> plain.restoreSnapshot(slot));
            default -> same("tell(" + person + ", " + piece + ")", () -> program.tell(person, piece), () -> plain.tell(person, piece));
        }
    }

    private void question() {
        int line = upTo(lines);
        int person = upTo(people);
        int piece = upTo(people);
        switch (random.nextInt(20)) {
            case 0 -> ask("size", upTo(6));
            case 1 -> {
                int what = upTo(7);
                same("line(" + line + ", " + what + ")", () -> program.line(line, what), () -> plain.line(line, what));
            }
            case 2 -> {
                int round = 1 + upTo(60);
                same("isUsable(" + line + ", " + round + ")", () -> program.isUsable(line, round) ? 1 : 0, () -> plain.isUsable(line, round) ? 1 : 0);
            }
            case 3 -> same("cheapestLine(" + line + ")", () -> program.cheapestLine(line), () -> plain.cheapestLine(line));
            case 4 -> same("known(" + person + ")", () -> program.known(person), () -> plain.known(person));
            case 5 -> same("knowers(" + piece + ")", () -> program.knowers(piece), () -> plain.knowers(piece));
            case 6 -> same("missing()", program::missing, plain::missing);
            case 7 -> same("partner(" + person + ")", () -> program.partner(person), () -> plain.partner(person));
            case 8 -> same("arranged()", program::arranged, plain::arranged);
            case 9 -> same("gain()", program::gain, plain::gain);
            case 10 -> ask("spent", upTo(40));
            case 11 -> ask("best", upTo(3));
            case 12 -> ask("plan", upTo(4));
            case 13, 14 -> ask("fewest", upTo(5));
            case 15 -> same("doublings()", program::doublings, plain::doublings);
            case 16 -> same("soonest(" + person + ", " + piece + ")", () -> program.soonest(person, piece), () -> plain.soonest(person, piece));
            case 17 -> same("cheapest(" + person + ", " + piece + ")", () -> program.cheapest(person, piece), () -> plain.cheapest(person, piece));
            case 18 -> same("vital()", program::vital, plain::vital);
            default -> same("errorPosition()", program::errorPosition, plain::errorPosition);
        }
    }

    private void ask(String method, int what) {
        String call = method + "(" + what + ")";
        switch (method) {
            case "size" -> same(call, () -> program.size(what), () -> plain.size(what));
            case "spent" -> same(call, () -> program.spent(what), () -> plain.spent(what));
            case "best" -> same(call, () -> program.best(what), () -> plain.best(what));
            case "plan" -> {
                if (lines <= 12) {
                    same(call, () -> program.plan(what), () -> plain.plan(what));
                }
            }
            default -> {
                if (what < 2 || what > 4 || plain.labourOfFewest() < 14) {
                    same(call, () -> program.fewest(what), () -> plain.fewest(what));
                }
            }
        }
    }
}
