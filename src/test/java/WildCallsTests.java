import java.util.Random;

/** Calls with arguments of any kind in any state: nothing but the document's exception may reach the caller. */
public final class WildCallsTests {
    private static final int RUNS = 3000;
    private static final int CALLS = 512;
    private static final String[] WORDS = {"clock ", "derive ", "turned ", "apart ", "false ", "cycles ", "most ",
            "least ", "load ", "slope ", ";", "; ", " a ", " b ", " 1 ", " 2 ", " 7 ", " 999999 ", " * ", " - ", "\n",
            "clock a 7 0 1 *;", "derive b a 2 3 ?;", "load 1 *;", "slope 2 a;", "false - - a;", "apart a b;"};

    private WildCallsTests() {
    }

    public static void main(String[] args) {
        int wrong = 0;
        int refused = 0;
        for (int seed = 0; seed < RUNS; seed++) {
            Random random = new Random(seed);
            ConstraintText text = new ConstraintText();
            for (int i = 0; i < CALLS; i++) {
                int which = random.nextInt(20);
                try {
                    call(text, which, random);
                } catch (RuntimeException e) {
                    refused++;
                    if (e.getClass() != IndexOutOfBoundsException.class) {
                        wrong++;
                        System.out.println("seed " + seed + ", call " + i + ": kind " + which + " threw " + e);
                    }
                }
            }
        }
        System.out.println("wild calls: " + RUNS * CALLS + " calls, " + refused + " refused, " + wrong + " wrongly");
        if (wrong != 0) {
            System.exit(1);
        }
    }

    private static int any(Random random) {
        switch (random.nextInt(8)) {
            case 0:
                return random.nextInt();
            case 1:
                return random.nextBoolean() ? Integer.MAX_VALUE : Integer.MIN_VALUE;
            case 2:
                return random.nextInt(1300) - 20;
            case 3:
                return random.nextInt(50) - 5;
            default:
                return random.nextInt(4);
        }
    }

    private static void call(ConstraintText text, int which, Random random) {
        int a = any(random);
        int b = any(random);
        int c = any(random);
        switch (which) {
            case 0:
                text.unit(a);
                break;
            case 1:
                text.units(a);
                break;
            case 2:
                text.name(a, random.nextBoolean() ? b : 'a' + random.nextInt(3));
                break;
            case 3:
                text.read();
                break;
            case 4:
                text.clock(a, b);
                break;
            case 5:
                text.edge(a, b, c);
                break;
            case 6:
                text.distance(a, b, c);
                break;
            case 7:
                text.exception(a, b, c);
                break;
            case 8:
                text.row(a, b);
                break;
            case 9:
                text.load(a, b);
                break;
            case 10:
                text.unmatched(a);
                break;
            case 11:
                text.clash(a, b);
                break;
            case 12:
                text.write(a);
                break;
            case 13:
                text.count(a);
                break;
            default:
                Use.put(text, WORDS[random.nextInt(WORDS.length)]);
                break;
        }
    }
}
