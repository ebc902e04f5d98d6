import java.util.ArrayList;
import java.util.List;
import java.util.Random;

/** Runs of calls from a fixed seed, each answer compared with the reference's. */
public final class ReferenceTests {
    private static final int RUNS = 4000;
    private static final Checks CHECKS = new Checks();
    private static final String[] PATTERNS = {"*", "?", "a", "a*", "*b", "a?", "?b", "a*b", "b/*", "*/?", "ab", "x",
            "*a*", "??", "_*", "0*", "*9", "a/b", "*b*a*", "0"};
    private static final String[] NAMES = {"a", "b", "ab", "aa", "b/a", "a/b", "_", "x0", "09", "bab", "abba", "0"};

    private final Random random;
    private final ConstraintText text = new ConstraintText();
    private final Reference reference = new Reference();
    private final List<String> clocks = new ArrayList<>();
    private int faults = 0;
    private int reads = 0;

    private ReferenceTests(int seed) {
        random = new Random(seed);
    }

    public static void main(String[] args) {
        int faults = 0;
        int reads = 0;
        for (int seed = 0; seed < RUNS && CHECKS.wrong() < 20; seed++) {
            ReferenceTests run = new ReferenceTests(seed);
            run.play();
            faults += run.faults;
            reads += run.reads;
        }
        System.out.println(reads + " texts read, " + faults + " of them with a fault");
        CHECKS.end("reference");
    }

    private void play() {
        for (int i = 0; i < 3; i++) {
            growNames(1 + random.nextInt(6));
            putText();
            int due = reference.read();
            CHECKS.same("read", text.read(), due);
            reads++;
            faults += due < 0 ? 1 : 0;
            compareAll();
            growNames(random.nextInt(3));
            compareAll();
        }
    }

    private void growNames(int times) {
        for (int i = 0; i < times; i++) {
            int pin = random.nextInt(random.nextBoolean() ? 6 : 40);
            String more = NAMES[random.nextInt(NAMES.length)] + (random.nextInt(10) == 0 ? "A" : "");
            for (char c : more.toCharArray()) {
                boolean due = reference.name(pin, c);
                CHECKS.same("name " + pin + " " + c, text.name(pin, c) ? 1 : 0, due ? 1 : 0);
            }
        }
    }

    private void putText() {
        StringBuilder all = new StringBuilder();
        clocks.clear();
        int rows = random.nextInt(random.nextInt(8) == 0 ? 44 : 14);
        // Few names make twice-named clocks, many make none but too many clocks.
        int names = random.nextInt(4) == 0 ? 3 : 20;
        for (int i = 0; i < names; i++) {
            clocks.add("" + (char) ('a' + i) + (i % 3 == 0 ? "z" : ""));
        }
        int fresh = 0;
        if (random.nextInt(10) > 0) {
            all.append(clockRow(0, clocks.get(fresh++)));
        }
        for (int i = 0; i < rows; i++) {
            int sort = random.nextInt(10);
            if (sort < 3) {
                if (fresh == clocks.size() || random.nextInt(60) == 0) {
                    all.append(clockRow(sort, someClock()));
                } else {
                    all.append(clockRow(sort, clocks.get(fresh++)));
                }
            } else {
                all.append(otherRow(sort));
            }
        }
        harm(all);
        for (int i = 0; i < all.length(); i += 4) {
            int four = 0;
            for (int j = i; j < i + 4; j++) {
                four = four << 8 | (j < all.length() ? all.charAt(j) : 0);
            }
            boolean due = reference.units(four);
            CHECKS.same("units", text.units(four) ? 1 : 0, due ? 1 : 0);
        }
        CHECKS.same("count 2", text.count(2), reference.tape.length());
    }

    private String someClock() {
        return clocks.get(random.nextInt(clocks.size()));
    }

    private String gap() {
        return random.nextInt(12) == 0 ? " \n" : " ";
    }

    private String whole(int below) {
        return (random.nextInt(6) == 0 ? "0" : "") + random.nextInt(below);
    }

    private String pattern() {
        return PATTERNS[random.nextInt(PATTERNS.length)];
    }

    private String side() {
        return random.nextInt(3) == 0 ? pattern() : "-";
    }

    private String clockRow(int sort, String name) {
        String[] words = {"clock", "derive", "turned"};
        String head = words[sort] + gap() + name + " ";
        String tail = " " + pattern() + ";";
        if (sort == 0) {
            int period = 2 + random.nextInt(random.nextInt(8) == 0 ? 3000 : 40);
            int rise = random.nextInt(period);
            int fall = random.nextInt(25) == 0 ? random.nextInt(period + 1) : (rise + 1 + random.nextInt(period - 1)) % period;
            return head + period + gap() + rise + gap() + fall + tail;
        }
        int most = random.nextInt(6) == 0 ? 1000 : 9;
        // A source before this one, most often, so that rings do not spoil most texts.
        int before = Math.max(1, clocks.indexOf(name));
        String source = clocks.get(random.nextInt(random.nextInt(30) == 0 ? clocks.size() : before));
        return head + source + " " + (1 + random.nextInt(most)) + gap() + (1 + random.nextInt(most)) + tail;
    }

    private String otherRow(int sort) {
        String sides = side() + " " + side() + gap() + (random.nextInt(20) == 0 ? "-" : pattern());
        switch (sort) {
            case 3:
                return "apart " + clocks.get(0) + " " + clocks.get(random.nextInt(5) / 4) + ";";
            case 4:
                return "false " + sides + gap() + ";";
            case 5:
                return "cycles " + (2 + random.nextInt(99)) + " " + sides + ";\n";
            case 6:
                return "most " + whole(1000) + " " + sides + ";";
            case 7:
                return "least " + whole(1000000) + " " + sides + ";";
            default:
                return (sort == 8 ? "load " : "slope ") + whole(5) + gap() + pattern() + ";";
        }
    }

    private void harm(StringBuilder all) {
        for (int i = 0; i < 3 && all.length() > 0 && random.nextInt(6) == 0; i++) {
            int place = random.nextInt(all.length());
            String letters = " ;-0a*\n9+Zz?";
            if (random.nextBoolean()) {
                all.setCharAt(place, letters.charAt(random.nextInt(letters.length())));
            } else if (random.nextBoolean()) {
                all.insert(place, letters.charAt(random.nextInt(letters.length())));
            } else if (random.nextBoolean()) {
                all.deleteCharAt(place);
            } else {
                all.setLength(place);
            }
        }
    }

    private void compareAll() {
        CHECKS.same("count 0", text.count(0), reference.rows.size());
        CHECKS.same("count 1", text.count(1), reference.clocks.size());
        String printed = reference.printed();
        CHECKS.same("count 3", text.count(3), printed.length());
        CHECKS.same("printed", Use.printed(text), printed);
        for (int row = 1; row <= reference.rows.size(); row++) {
            CHECKS.same("row " + row, text.row(row, 0), reference.rows.get(row - 1).sort);
            CHECKS.same("row " + row, text.row(row, 1), reference.rows.get(row - 1).value());
        }
        for (int pin = 0; pin < 40; pin++) {
            CHECKS.same("load " + pin, text.load(pin, 0), reference.load(pin, 0));
            CHECKS.same("slope " + pin, text.load(pin, 1), reference.load(pin, 1));
        }
        compareClocks();
        compareExceptions();
        compareLists();
    }

    private void compareClocks() {
        int size = reference.clocks.size();
        for (int clock = 0; clock < size; clock++) {
            for (int what = 0; what < 7; what++) {
                CHECKS.same("clock " + clock + " " + what, text.clock(clock, what), reference.clock(clock, what));
            }
            int k = random.nextInt(random.nextBoolean() ? 6 : 1001);
            for (int part = 0; part < 3; part++) {
                CHECKS.same("edge " + clock + " " + k + " " + part, text.edge(clock, k, part),
                        reference.edge(clock, k, part));
            }
            int other = random.nextInt(size);
            if (reference.countsDistance(clock, other)) {
                for (int part = 0; part < 2; part++) {
                    CHECKS.same("distance " + clock + " " + other + " " + part, text.distance(clock, other, part),
                            reference.distance(clock, other, part));
                }
            }
        }
    }

    private void compareExceptions() {
        for (int i = 0; i < 40; i++) {
            int from = random.nextInt(7) - 1;
            int through = random.nextInt(7) - 1;
            int to = random.nextInt(7) - 1;
            CHECKS.same("exception " + from + " " + through + " " + to, text.exception(from, through, to),
                    reference.exception(from, through, to));
        }
    }

    private void compareLists() {
        List<Integer> unmatched = reference.unmatched();
        for (int k = 0; k < unmatched.size() + 2; k++) {
            CHECKS.same("unmatched " + k, text.unmatched(k), k < unmatched.size() ? unmatched.get(k) : -1);
        }
        List<int[]> clashes = reference.clashes();
        for (int k = 0; k < clashes.size() + 2; k++) {
            for (int which = 0; which < 2; which++) {
                CHECKS.same("clash " + k + " " + which, text.clash(k, which),
                        k < clashes.size() ? clashes.get(k)[which] : -1);
            }
        }
    }
}
