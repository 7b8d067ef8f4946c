import java.util.ArrayList;
import java.util.Arrays;
import java.util.HashSet;
import java.util.List;
import java.util.Random;
import java.util.Set;

/** Promise 18 against all that can come out when any free set is used in each round; the same seeds each time. */
public final class FewestTest {
    private static final Checks CHECKS = new Checks("FewestTest");
    private static final int BITS = 6;

    private final Random random;
    private final NewsExchange x;
    private final int people;
    private final int lines;

    private FewestTest(int seed) {
        random = new Random(seed);
        people = 2 + random.nextInt(5);
        lines = random.nextInt(seed % 4 == 0 ? 25 : 11);
        x = Texts.exchange(text());
    }

    public static void main(String[] args) {
        int runs = args.length > 0 ? Integer.parseInt(args[0]) : 400;
        int first = args.length > 1 ? Integer.parseInt(args[1]) : 1;
        int[] found = new int[6];
        for (int seed = first; seed < first + runs; seed++) {
            found[new FewestTest(seed).run("seed " + seed) + 1]++;
        }
        for (int rounds = -1; rounds <= 4 && runs >= 400; rounds++) {
            CHECKS.due("answer " + rounds + " is among them", found[rounds + 1] > 0, true);
        }
        CHECKS.end();
    }

    private String text() {
        int forth = random.nextInt(5);
        StringBuilder text = new StringBuilder("people " + people + ";");
        for (int line = 0; line < lines; line++) {
            int from = random.nextInt(people);
            int to = (from + 1 + random.nextInt(people - 1)) % people;
            text.append("line").append(from).append(" ").append(to);
            text.append(random.nextInt(4) < forth ? "forth1;" : "both1;");
        }
        for (int broken = random.nextInt(5); lines > 0 && broken > 0; broken--) {
            int first = 1 + random.nextInt(4);
            text.append("broken").append(random.nextInt(lines)).append(" ").append(first).append(" ");
            text.append(first + random.nextInt(3)).append(";");
        }
        if (random.nextInt(4) == 0) {
            int first = 1 + random.nextInt(4);
            text.append("away").append(random.nextInt(people)).append(" ").append(first).append(" ").append(first).append(";");
        }
        return text.toString();
    }

    private int run(String name) {
        prepare();
        int due = fewest();
        for (int limit = 0; limit <= 4; limit++) {
            CHECKS.due(name + ", fewest(" + limit + ")", x.fewest(limit), due >= 0 && due <= limit ? due : -1);
        }
        return due;
    }

    private void prepare() {
        if (random.nextBoolean()) {
            x.arrangeBest();
            x.ring();
        }
        if (lines > 0 && random.nextInt(3) == 0) {
            x.cut(random.nextInt(lines));
        }
        int letters = random.nextInt(3) * random.nextInt(people);
        for (int letter = 0; letter < letters; letter++) {
            int person = random.nextInt(people);
            int piece = random.nextInt(people);
            if ((x.known(person) >> piece & 1) == 0) {
                x.tell(person, piece);
            }
        }
    }

    /** What everybody knows is one number, of six bits a person. */
    private int fewest() {
        long all = 0;
        long everything = 0;
        for (int person = 0; person < people; person++) {
            all |= (long) x.known(person) << BITS * person;
            everything |= (1L << people) - 1 << BITS * person;
        }
        Set<Long> reached = new HashSet<>();
        reached.add(all);
        for (int rounds = 0; rounds < 4; rounds++) {
            if (reached.contains(everything)) {
                return rounds;
            }
            reached = behind(reached, freeSets(x.size(2) + 1 + rounds));
        }
        return reached.contains(everything) ? 4 : -1;
    }

    private Set<Long> behind(Set<Long> reached, List<int[]> sets) {
        Set<Long> behind = new HashSet<>();
        for (long known : reached) {
            for (int[] set : sets) {
                behind.add(after(known, set));
            }
        }
        return behind;
    }

    private List<int[]> freeSets(int round) {
        List<int[]> sets = new ArrayList<>();
        sets.add(new int[0]);
        for (int line = 0; line < lines; line++) {
            int count = x.isUsable(line, round) ? sets.size() : 0;
            for (int i = 0; i < count; i++) {
                int[] set = sets.get(i);
                if (isFreeFor(set, line)) {
                    int[] more = Arrays.copyOf(set, set.length + 1);
                    more[set.length] = line;
                    sets.add(more);
                }
            }
        }
        return sets;
    }

    private boolean isFreeFor(int[] set, int line) {
        for (int other : set) {
            for (int end = 0; end <= 1; end++) {
                if (x.line(other, end) == x.line(line, 0) || x.line(other, end) == x.line(line, 1)) {
                    return false;
                }
            }
        }
        return true;
    }

    private long after(long known, int[] set) {
        long then = known;
        for (int line : set) {
            int from = BITS * x.line(line, 0);
            int to = BITS * x.line(line, 1);
            then |= (known >> from & 63) << to;
            if (x.line(line, 2) == 0) {
                then |= (known >> to & 63) << from;
            }
        }
        return then;
    }
}
