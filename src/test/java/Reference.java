import java.math.BigInteger;
import java.util.ArrayList;
import java.util.Arrays;
import java.util.LinkedHashMap;
import java.util.List;
import java.util.Map;
import java.util.regex.Matcher;
import java.util.regex.Pattern;

/** A second way to the answers of ConstraintText: plain, slow, and with the Java library. */
final class Reference {
    private static final String[] KEYWORDS = {"clock", "derive", "turned", "apart", "false", "cycles", "most",
            "least", "load", "slope"};
    // What may stand behind each keyword, a letter for each word, as in the document.
    private static final String[] FORMS = {"CPRFX;", "CDNMX;", "CDNMX;", "DD;", "xyz;", "Kxyz;", "Vxyz;", "Vxyz;",
            "VX;", "VX;"};
    private static final BigInteger LIMIT = BigInteger.valueOf(1000000);

    static final class Word {
        final String text;
        final int place;

        Word(String text, int place) {
            this.text = text;
            this.place = place;
        }
    }

    static final class Row {
        int sort;
        final List<Word> words = new ArrayList<>();

        boolean makesClock() {
            return sort < 3;
        }

        String word(char kind) {
            return words.get(1 + FORMS[sort].indexOf(kind)).text;
        }

        int value() {
            return sort == 5 ? Integer.parseInt(word('K')) : sort >= 6 ? Integer.parseInt(word('V')) : 0;
        }

        /** From, through and to; a row of another sort has one pattern, the first. */
        String[] patterns() {
            if (sort == 3) {
                return new String[] {"-", "-", "-"};
            }
            if (sort >= 4 && sort <= 7) {
                return new String[] {word('x'), word('y'), word('z')};
            }
            return new String[] {word('X'), "-", "-"};
        }
    }

    /** Period, rise, fall and the lower number of all. */
    static final class Times {
        final BigInteger[] numbers;

        Times(BigInteger... numbers) {
            BigInteger divisor = BigInteger.ZERO;
            for (BigInteger number : numbers) {
                divisor = divisor.gcd(number);
            }
            this.numbers = new BigInteger[4];
            for (int i = 0; i < 4; i++) {
                this.numbers[i] = numbers[i].divide(divisor);
            }
        }

        boolean great() {
            for (BigInteger number : numbers) {
                if (number.compareTo(LIMIT) > 0) {
                    return true;
                }
            }
            return false;
        }
    }

    final StringBuilder tape = new StringBuilder();
    final String[] names = new String[40];
    List<Row> rows = new ArrayList<>();
    Map<String, Times> clocks = new LinkedHashMap<>();

    Reference() {
        Arrays.fill(names, "");
    }

    static boolean onTape(int u) {
        return u == 10 || u >= 32 && u <= 126;
    }

    boolean units(int four) {
        StringBuilder more = new StringBuilder();
        for (int i = 3; i >= 0; i--) {
            int u = four >> 8 * i & 0xff;
            if (u != 0) {
                if (!onTape(u)) {
                    return false;
                }
                more.append((char) u);
            }
        }
        if (tape.length() + more.length() > 1200) {
            return false;
        }
        tape.append(more);
        return true;
    }

    boolean name(int pin, int u) {
        if (u < 0 || u > 127 || !("" + (char) u).matches("[a-z0-9_/]") || names[pin].length() == 16) {
            return false;
        }
        names[pin] += (char) u;
        return true;
    }

    int read() {
        String text = tape.toString();
        tape.setLength(0);
        List<Word> words = new ArrayList<>();
        Matcher matcher = Pattern.compile(";|[^ \n;]+").matcher(text);
        while (matcher.find()) {
            words.add(new Word(matcher.group(), matcher.start()));
        }
        words.add(new Word("", text.length()));
        List<Row> found = new ArrayList<>();
        int fault = faultOfForm(words, found);
        if (fault < 0) {
            fault = faultOfLinks(found);
        }
        Map<String, Times> times = new LinkedHashMap<>();
        if (fault < 0) {
            fault = faultOfTimes(found, times);
        }
        if (fault >= 0) {
            return -1 - fault;
        }
        rows = found;
        clocks = times;
        return rows.size();
    }

    private static int faultOfForm(List<Word> words, List<Row> found) {
        List<String> known = new ArrayList<>();
        int at = 0;
        while (!words.get(at).text.isEmpty()) {
            int sort = Arrays.asList(KEYWORDS).indexOf(words.get(at).text);
            if (sort < 0 || found.size() == 40) {
                return words.get(at).place;
            }
            Row row = new Row();
            row.sort = sort;
            row.words.add(words.get(at++));
            for (char kind : FORMS[sort].toCharArray()) {
                Word word = words.get(at);
                if (!canStand(kind, word.text, row, known)) {
                    return word.place;
                }
                if (kind == 'C') {
                    known.add(word.text);
                }
                row.words.add(word);
                at++;
            }
            found.add(row);
        }
        return -1;
    }

    private static boolean canStand(char kind, String word, Row row, List<String> known) {
        boolean whole = word.matches("[0-9]{1,6}");
        boolean pattern = word.matches("[a-z0-9_/*?]{1,16}");
        switch (kind) {
            case ';':
                return word.equals(";");
            case 'C':
                return word.matches("[a-z]{1,8}") && known.size() < 12 && !known.contains(word);
            case 'D':
                return word.matches("[a-z]{1,8}");
            case 'P':
                return whole && Integer.parseInt(word) > 0;
            case 'R':
                return whole && Integer.parseInt(word) < Integer.parseInt(row.word('P'));
            case 'F':
                return whole && Integer.parseInt(word) < Integer.parseInt(row.word('P'))
                        && Integer.parseInt(word) != Integer.parseInt(row.word('R'));
            case 'N':
            case 'M':
                return whole && Integer.parseInt(word) >= 1 && Integer.parseInt(word) <= 1000;
            case 'K':
                return whole && Integer.parseInt(word) >= 2 && Integer.parseInt(word) <= 100;
            case 'V':
                return whole;
            case 'X':
                return pattern;
            case 'z':
                return pattern || word.equals("-") && !(row.word('x') + row.word('y')).equals("--");
            default:
                return pattern || word.equals("-");
        }
    }

    private static int faultOfLinks(List<Row> found) {
        List<String> known = new ArrayList<>();
        for (Row row : found) {
            if (row.makesClock()) {
                known.add(row.word('C'));
            }
        }
        for (Row row : found) {
            for (int i = 0; i < FORMS[row.sort].length(); i++) {
                Word word = row.words.get(i + 1);
                if (FORMS[row.sort].charAt(i) == 'D' && !known.contains(word.text)) {
                    return word.place;
                }
            }
        }
        return -1;
    }

    private static Row maker(List<Row> found, String clock) {
        for (Row row : found) {
            if (row.makesClock() && row.word('C').equals(clock)) {
                return row;
            }
        }
        throw new IllegalStateException(clock);
    }

    private static int faultOfTimes(List<Row> found, Map<String, Times> times) {
        for (Row row : found) {
            Row next = row;
            for (int i = 0; i < 12 && (next.sort == 1 || next.sort == 2); i++) {
                next = maker(found, next.word('D'));
                if (next == row) {
                    return row.words.get(1).place;
                }
            }
        }
        for (Row row : found) {
            if (row.makesClock()) {
                Times own = timesOf(found, row);
                if (own == null) {
                    return row.words.get(1).place;
                }
                times.put(row.word('C'), own);
            }
        }
        return -1;
    }

    /** Null if it is great. */
    private static Times timesOf(List<Row> found, Row row) {
        if (row.sort == 0) {
            return new Times(new BigInteger(row.word('P')), new BigInteger(row.word('R')),
                    new BigInteger(row.word('F')), BigInteger.ONE);
        }
        Times source = timesOf(found, maker(found, row.word('D')));
        if (source == null) {
            return null;
        }
        BigInteger n = new BigInteger(row.word('N'));
        BigInteger m = new BigInteger(row.word('M'));
        BigInteger[] of = source.numbers;
        Times own = new Times(of[0].multiply(n), of[row.sort == 2 ? 2 : 1].multiply(n),
                of[row.sort == 2 ? 1 : 2].multiply(n), of[3].multiply(m));
        return own.great() ? null : own;
    }

    boolean matches(String pattern, int pin) {
        return pin >= 0 && !names[pin].isEmpty()
                && names[pin].matches(pattern.replace("*", ".*").replace("?", "."));
    }

    String clockName(int clock) {
        return new ArrayList<>(clocks.keySet()).get(clock);
    }

    int clock(int clock, int what) {
        String name = clockName(clock);
        Row row = maker(rows, name);
        if (what < 4) {
            return clocks.get(name).numbers[what].intValueExact();
        }
        if (what == 4) {
            return rows.indexOf(row) + 1;
        }
        if (what == 5) {
            return row.sort == 0 ? -1 : new ArrayList<>(clocks.keySet()).indexOf(row.word('D'));
        }
        int pins = 0;
        for (int pin = 0; pin < 40; pin++) {
            pins += matches(row.word('X'), pin) ? 1 : 0;
        }
        return pins;
    }

    long edge(int clock, int k, int part) {
        BigInteger[] of = clocks.get(clockName(clock)).numbers;
        boolean rise = of[1].compareTo(of[2]) < 0;
        BigInteger time = of[1].min(of[2]);
        BigInteger other = of[1].max(of[2]);
        for (int i = 0; i < k; i++) {
            BigInteger next = time.add(of[0]);
            time = other;
            other = next;
            rise = !rise;
        }
        return part == 2 ? (rise ? 1 : 0) : lowest(time, of[3], part);
    }

    private static long lowest(BigInteger upper, BigInteger lower, int part) {
        BigInteger divisor = upper.gcd(lower);
        return (part == 0 ? upper : lower).divide(divisor).longValueExact();
    }

    long distance(int a, int b, int part) {
        String one = clockName(a);
        String other = clockName(b);
        for (Row row : rows) {
            String first = row.sort == 3 ? row.words.get(1).text : "";
            String second = row.sort == 3 ? row.words.get(2).text : "";
            if (first.equals(one) && second.equals(other) || first.equals(other) && second.equals(one)) {
                return part;
            }
        }
        BigInteger[] x = clocks.get(one).numbers;
        BigInteger[] y = clocks.get(other).numbers;
        BigInteger lower = x[3].multiply(y[3]);
        BigInteger period = x[0].multiply(y[3]);
        BigInteger otherPeriod = y[0].multiply(x[3]);
        BigInteger rise = x[1].multiply(y[3]);
        BigInteger otherRise = y[1].multiply(x[3]);
        int rounds = otherPeriod.divide(period.gcd(otherPeriod)).intValueExact();
        BigInteger least = null;
        for (int i = 0; i < rounds; i++) {
            BigInteger gap = otherRise.subtract(rise).subtract(period.multiply(BigInteger.valueOf(i))).mod(otherPeriod);
            gap = gap.signum() == 0 ? otherPeriod : gap;
            least = least == null ? gap : least.min(gap);
        }
        return lowest(least, lower, part);
    }

    /** Too many rounds to count them all: such distances are left to the other tests. */
    boolean countsDistance(int a, int b) {
        BigInteger[] x = clocks.get(clockName(a)).numbers;
        BigInteger[] y = clocks.get(clockName(b)).numbers;
        BigInteger period = x[0].multiply(y[3]);
        BigInteger otherPeriod = y[0].multiply(x[3]);
        return otherPeriod.divide(period.gcd(otherPeriod)).compareTo(BigInteger.valueOf(3000)) <= 0;
    }

    int exception(int from, int through, int to) {
        int[] pins = {from, through, to};
        int[] weights = {4, 1, 2};
        int[] strengths = {0, 0, 0, 0, 3, 1, 2, 2, 0, 0};
        int best = 0;
        int[] bestKey = {-1, -1};
        for (int i = 0; i < rows.size(); i++) {
            Row row = rows.get(i);
            boolean holds = row.sort >= 4 && row.sort <= 7;
            int weight = 0;
            for (int slot = 0; slot < 3 && holds; slot++) {
                String pattern = row.patterns()[slot];
                if (!pattern.equals("-")) {
                    weight += weights[slot];
                    holds = matches(pattern, pins[slot]);
                }
            }
            int[] key = {strengths[row.sort], weight};
            if (holds && Arrays.compare(key, bestKey) >= 0) {
                best = i + 1;
                bestKey = key;
            }
        }
        return best;
    }

    int load(int pin, int what) {
        int found = -1;
        for (Row row : rows) {
            if (row.sort == 8 + what && matches(row.word('X'), pin)) {
                found = row.value();
            }
        }
        return found;
    }

    private boolean matchesSome(String pattern) {
        for (int pin = 0; pin < 40; pin++) {
            if (matches(pattern, pin)) {
                return true;
            }
        }
        return false;
    }

    List<Integer> unmatched() {
        List<Integer> all = new ArrayList<>();
        for (int i = 0; i < rows.size(); i++) {
            for (String pattern : rows.get(i).patterns()) {
                if (!pattern.equals("-") && !matchesSome(pattern)) {
                    all.add(i + 1);
                    break;
                }
            }
        }
        return all;
    }

    List<int[]> clashes() {
        List<int[]> all = new ArrayList<>();
        for (int i = 0; i < rows.size(); i++) {
            for (int j = i + 1; j < rows.size(); j++) {
                Row one = rows.get(i);
                Row other = rows.get(j);
                boolean alike = one.makesClock() && other.makesClock()
                        || one.sort >= 8 && one.sort == other.sort && one.value() != other.value();
                for (int pin = 0; pin < 40 && alike; pin++) {
                    if (matches(one.word('X'), pin) && matches(other.word('X'), pin)) {
                        all.add(new int[] {i + 1, j + 1});
                        break;
                    }
                }
            }
        }
        return all;
    }

    String printed() {
        StringBuilder all = new StringBuilder();
        for (Row row : rows) {
            for (int i = 0; i < row.words.size(); i++) {
                String word = row.words.get(i).text;
                boolean number = i > 0 && "PRFNMKV".indexOf(FORMS[row.sort].charAt(i - 1)) >= 0;
                boolean end = word.equals(";");
                all.append(i == 0 || end ? "" : " ").append(number ? "" + Integer.parseInt(word) : word);
                all.append(end ? "\n" : "");
            }
        }
        return all.toString();
    }
}
