import java.util.Arrays;

/** Constraints of a chip, read from a text, asked about and printed again. */
public final class ConstraintText {

    public static final int NONE = -1;

    private static final int PINS = 40;
    private static final int PIN_NAME_ROOM = 16;
    private static final int PATTERN_ROOM = 16;
    private static final int TAPE_ROOM = 1200;
    private static final int ROWS = 40;
    private static final int CLOCKS = 12;
    private static final int CLOCK_NAME_ROOM = 8;
    private static final int WHOLE_ROOM = 6;
    private static final int GREATEST_WHOLE = 999999;
    private static final int GREATEST_RATIO = 1000;
    private static final int GREATEST_TIME = 1000000;
    private static final int LAST_EDGE = 1000;

    // Printing adds no more than a line's end to each row of the tape.
    private static final int PRINT_ROOM = TAPE_ROOM + ROWS;

    private static final int CLOCK = 0;
    private static final int DERIVE = 1;
    private static final int TURNED = 2;
    private static final int APART = 3;
    private static final int FALSE = 4;
    private static final int CYCLES = 5;
    private static final int MOST = 6;
    private static final int LEAST = 7;
    private static final int LOAD = 8;
    private static final int SLOPE = 9;
    private static final int SORTS = 10;

    private static final int FROM = 0;
    private static final int THROUGH = 1;
    private static final int TO = 2;
    private static final int PATTERNS = 3;
    private static final int LINKS = 2;

    private static final int LINE_END = 10;

    private final Tape tape;
    private final Pins pins;
    private final Reader reader;
    private Sheet sheet;

    public ConstraintText() {
        reader = new Reader();
        tape = reader.tape;
        pins = new Pins();
        sheet = new Sheet();
    }

    public boolean unit(int u) {
        if (!Tape.takes(u) || tape.room() < 1) {
            return false;
        }
        tape.append(u);
        return true;
    }

    public boolean units(int four) {
        int length = 0;
        for (int shift = 24; shift >= 0; shift -= 8) {
            int u = four >>> shift & 255;
            if (u != 0) {
                if (!Tape.takes(u)) {
                    return false;
                }
                length++;
            }
        }
        if (tape.room() < length) {
            return false;
        }
        for (int shift = 24; shift >= 0; shift -= 8) {
            int u = four >>> shift & 255;
            if (u != 0) {
                tape.append(u);
            }
        }
        return true;
    }

    public boolean name(int pin, int u) throws IndexOutOfBoundsException {
        if (!Pins.has(pin)) {
            throw new IndexOutOfBoundsException("there is no such pin");
        }
        if (!isNameUnit(u) || !pins.grow(pin, u)) {
            return false;
        }
        sheet.matchPin(pins, pin);
        return true;
    }

    public int read() {
        int fault = reader.faultOfTape();
        tape.wipe();
        if (fault != NONE) {
            return -1 - fault;
        }
        sheet = reader.exchange(sheet);
        for (int pin = 0; pin < PINS; pin++) {
            sheet.matchPin(pins, pin);
        }
        return sheet.rowCount;
    }

    public int clock(int clock, int what) throws IndexOutOfBoundsException {
        if (!sheet.clocks.has(clock) || what < 0 || what > 6) {
            throw new IndexOutOfBoundsException("there is no such clock or what");
        }
        if (what == 6) {
            return Long.bitCount(sheet.hitsOf(sheet.clocks.rows[clock], FROM));
        }
        return sheet.clocks.fact(clock, what);
    }

    public long edge(int clock, int k, int part) throws IndexOutOfBoundsException {
        if (!sheet.clocks.has(clock) || k < 0 || k > LAST_EDGE || part < 0 || part > 2) {
            throw new IndexOutOfBoundsException("there is no such clock, edge or part");
        }
        return sheet.clocks.edgePart(clock, k, part);
    }

    public long distance(int a, int b, int part) throws IndexOutOfBoundsException {
        if (!sheet.clocks.has(a) || !sheet.clocks.has(b) || part < 0 || part > 1) {
            throw new IndexOutOfBoundsException("there is no such clock or part");
        }
        if (sheet.saysApart(a, b)) {
            return part;
        }
        return sheet.clocks.distancePart(a, b, part);
    }

    public int exception(int from, int through, int to) throws IndexOutOfBoundsException {
        if (!isPinOrNone(from) || !isPinOrNone(through) || !isPinOrNone(to)) {
            throw new IndexOutOfBoundsException("there is no such pin");
        }
        return sheet.winner(from, through, to);
    }

    public int row(int row, int what) throws IndexOutOfBoundsException {
        if (row < 1 || row > sheet.rowCount || what < 0 || what > 1) {
            throw new IndexOutOfBoundsException("there is no such row or what");
        }
        return what == 0 ? sheet.sorts[row - 1] : sheet.values[row - 1];
    }

    public int load(int pin, int what) throws IndexOutOfBoundsException {
        if (!Pins.has(pin) || what < 0 || what > 1) {
            throw new IndexOutOfBoundsException("there is no such pin or what");
        }
        return sheet.latestValue(what == 0 ? LOAD : SLOPE, pin);
    }

    public int unmatched(int k) throws IndexOutOfBoundsException {
        if (k < 0) {
            throw new IndexOutOfBoundsException("there is no such place");
        }
        return sheet.idleRow(k);
    }

    public int clash(int k, int which) throws IndexOutOfBoundsException {
        if (k < 0 || which < 0 || which > 1) {
            throw new IndexOutOfBoundsException("there is no such place or row");
        }
        return sheet.clashingRow(k, which);
    }

    public int write(int i) throws IndexOutOfBoundsException {
        if (i < 0) {
            throw new IndexOutOfBoundsException("there is no such place");
        }
        return i < sheet.printedLength ? sheet.printedAt(i) : NONE;
    }

    public int count(int what) throws IndexOutOfBoundsException {
        switch (what) {
            case 0:
                return sheet.rowCount;
            case 1:
                return sheet.clocks.size;
            case 2:
                return tape.length;
            case 3:
                return sheet.printedLength;
            default:
                throw new IndexOutOfBoundsException("there is no such what");
        }
    }

    private static boolean isPinOrNone(int pin) {
        return pin == NONE || Pins.has(pin);
    }

    private static boolean isSmallLetter(int u) {
        return u >= 'a' && u <= 'z';
    }

    private static boolean isDigit(int u) {
        return u >= '0' && u <= '9';
    }

    private static boolean isNameUnit(int u) {
        return isSmallLetter(u) || isDigit(u) || u == '_' || u == '/';
    }

    private static boolean isBlank(int u) {
        return u == ' ' || u == LINE_END;
    }

    private static boolean makesClock(int sort) {
        return sort == CLOCK || sort == DERIVE || sort == TURNED;
    }

    private static String keyword(int sort) {
        switch (sort) {
            case CLOCK:
                return "clock";
            case DERIVE:
                return "derive";
            case TURNED:
                return "turned";
            case APART:
                return "apart";
            case FALSE:
                return "false";
            case CYCLES:
                return "cycles";
            case MOST:
                return "most";
            case LEAST:
                return "least";
            case LOAD:
                return "load";
            default:
                return "slope";
        }
    }

    /** The greatest common divisor of two numbers that are not below 0; never below 1, so that it can divide. */
    private static long commonDivisor(long a, long b) {
        long x = a;
        long y = b;
        // Two steps halve the greater number at least: a long has no more than 63 halvings.
        for (int step = 0; y > 0 && step < 200; step++) {
            long rest = x % y;
            x = y;
            y = rest;
        }
        return x > 0 ? x : 1;
    }

    /** The upper (part 0) or lower number of a fraction in lowest terms. */
    private static long lowestPart(long upper, long lower, int part) {
        long divisor = commonDivisor(upper, lower);
        return (part == 0 ? upper : lower) / divisor;
    }

    /** The characters that are not read yet. */
    private static final class Tape {
        private final char[] units = new char[TAPE_ROOM];
        private int length = 0;

        static boolean takes(int u) {
            return u >= 32 && u <= 126 || u == LINE_END;
        }

        int room() {
            return TAPE_ROOM - length;
        }

        void append(int u) {
            if (length < units.length) {
                units[length] = (char) u;
                length++;
            }
        }

        void wipe() {
            length = 0;
        }

        char at(int place) {
            return place >= 0 && place < length ? units[place] : 0;
        }
    }

    /** The names of the pins. */
    private static final class Pins {
        private final char[] units = new char[PINS * PIN_NAME_ROOM];
        private final int[] lengths = new int[PINS];

        static boolean has(int pin) {
            return pin >= 0 && pin < PINS;
        }

        boolean grow(int pin, int u) {
            int length = lengthOf(pin);
            if (!has(pin) || length >= PIN_NAME_ROOM) {
                return false;
            }
            units[pin * PIN_NAME_ROOM + length] = (char) u;
            lengths[pin] = length + 1;
            return true;
        }

        int lengthOf(int pin) {
            return has(pin) ? lengths[pin] : 0;
        }

        char at(int pin, int place) {
            return place >= 0 && place < lengthOf(pin) ? units[pin * PIN_NAME_ROOM + place] : 0;
        }
    }

    /** The clocks of one text, with their times over a lower number that the three of each have in common. */
    private static final class ClockTable {
        private final int[] rows = new int[CLOCKS];
        private final int[] sources = new int[CLOCKS];
        private final boolean[] turned = new boolean[CLOCKS];
        private final int[] timesBy = new int[CLOCKS];
        private final int[] dividedBy = new int[CLOCKS];
        private final long[] periods = new long[CLOCKS];
        private final long[] rises = new long[CLOCKS];
        private final long[] falls = new long[CLOCKS];
        private final long[] lowers = new long[CLOCKS];
        private final boolean[] settled = new boolean[CLOCKS];
        private final boolean[] great = new boolean[CLOCKS];
        private int size = 0;

        boolean has(int clock) {
            return clock >= 0 && clock < size;
        }

        void wipe() {
            size = 0;
        }

        void open(int row) {
            if (size < CLOCKS) {
                rows[size] = row;
                sources[size] = NONE;
                settled[size] = false;
                great[size] = false;
                size++;
            }
        }

        /** The times of the newest clock, which is derived from none. */
        void setTimes(int period, int rise, int fall) {
            int clock = size - 1;
            if (has(clock)) {
                periods[clock] = period;
                rises[clock] = rise;
                falls[clock] = fall;
                lowers[clock] = 1;
                settled[clock] = true;
            }
        }

        /** The ratio of the newest clock to the one that it is derived from. */
        void setRatio(int upper, int lower, boolean isTurned) {
            int clock = size - 1;
            if (has(clock)) {
                timesBy[clock] = upper;
                dividedBy[clock] = lower;
                turned[clock] = isTurned;
            }
        }

        boolean inRing(int clock) {
            int at = clock;
            for (int step = 0; step < CLOCKS && has(at); step++) {
                at = sources[at];
                if (at == clock) {
                    return true;
                }
            }
            return false;
        }

        /** Settles each clock after its source, which may be a later one. */
        void settleAll() {
            for (int round = 0; round < size; round++) {
                for (int clock = 0; clock < size; clock++) {
                    int source = sources[clock];
                    if (!settled[clock] && has(source) && settled[source]) {
                        settle(clock, source);
                    }
                }
            }
        }

        private void settle(int clock, int source) {
            settled[clock] = true;
            // A great source's numbers are not used: down a chain they could outgrow a long.
            great[clock] = great[source];
            if (great[source]) {
                return;
            }
            long period = periods[source] * timesBy[clock];
            long rise = (turned[clock] ? falls[source] : rises[source]) * timesBy[clock];
            long fall = (turned[clock] ? rises[source] : falls[source]) * timesBy[clock];
            long lower = lowers[source] * dividedBy[clock];
            long divisor = commonDivisor(commonDivisor(period, rise), commonDivisor(fall, lower));
            periods[clock] = period / divisor;
            rises[clock] = rise / divisor;
            falls[clock] = fall / divisor;
            lowers[clock] = lower / divisor;
            // Rise and fall are below the period.
            great[clock] = periods[clock] > GREATEST_TIME || lowers[clock] > GREATEST_TIME;
        }

        int fact(int clock, int what) {
            if (!has(clock)) {
                return NONE;
            }
            switch (what) {
                case 0:
                    return (int) periods[clock];
                case 1:
                    return (int) rises[clock];
                case 2:
                    return (int) falls[clock];
                case 3:
                    return (int) lowers[clock];
                case 4:
                    return rows[clock];
                default:
                    return sources[clock];
            }
        }

        long edgePart(int clock, int k, int part) {
            if (!has(clock)) {
                return NONE;
            }
            boolean riseFirst = rises[clock] < falls[clock];
            boolean isRise = riseFirst == (k % 2 == 0);
            if (part == 2) {
                return isRise ? 1 : 0;
            }
            long first = isRise ? rises[clock] : falls[clock];
            return lowestPart(first + k / 2 * periods[clock], lowers[clock], part);
        }

        /** Times from rises of a to rises of b are their first one, give or take any multiple of both periods' common divisor. */
        long distancePart(int a, int b, int part) {
            if (!has(a) || !has(b)) {
                return NONE;
            }
            long shared = commonDivisor(lowers[a], lowers[b]);
            long stretchA = lowers[b] / shared;
            long stretchB = lowers[a] / shared;
            long step = commonDivisor(periods[a] * stretchA, periods[b] * stretchB);
            long gap = Math.floorMod(rises[b] * stretchB - rises[a] * stretchA, step);
            return lowestPart(gap == 0 ? step : gap, lowers[a] * stretchA, part);
        }
    }

    /** The rows of one text, what they mean for the pins, and how they are printed. */
    private static final class Sheet {
        private final int[] sorts = new int[ROWS];
        private final int[] values = new int[ROWS];
        private final int[] links = new int[ROWS * LINKS];
        // Patterns stand in the printed text as they were read.
        private final int[] patternStarts = new int[ROWS * PATTERNS];
        private final int[] patternLengths = new int[ROWS * PATTERNS];
        private final long[] hits = new long[ROWS * PATTERNS];
        private final char[] printed = new char[PRINT_ROOM];
        private final ClockTable clocks = new ClockTable();
        private int rowCount = 0;
        private int printedLength = 0;

        void wipe() {
            rowCount = 0;
            printedLength = 0;
            clocks.wipe();
        }

        void open(int sort) {
            if (rowCount < ROWS) {
                sorts[rowCount] = sort;
                values[rowCount] = 0;
                for (int i = 0; i < LINKS; i++) {
                    links[rowCount * LINKS + i] = NONE;
                }
                for (int slot = 0; slot < PATTERNS; slot++) {
                    patternLengths[rowCount * PATTERNS + slot] = 0;
                    hits[rowCount * PATTERNS + slot] = 0;
                }
                rowCount++;
            }
        }

        void setValue(int value) {
            if (rowCount > 0) {
                values[rowCount - 1] = value;
            }
        }

        /** The newest row's pattern is the word that was printed last. */
        void setPattern(int slot, int length) {
            int pattern = patternOf(rowCount, slot);
            if (pattern != NONE) {
                patternStarts[pattern] = printedLength - length;
                patternLengths[pattern] = length;
            }
        }

        /** The place of a row's pattern in the lists of them all; NONE if there is no such row or slot. */
        private int patternOf(int row, int slot) {
            boolean known = row >= 1 && row <= rowCount && slot >= 0 && slot < PATTERNS;
            return known ? (row - 1) * PATTERNS + slot : NONE;
        }

        boolean newestHasPattern() {
            for (int slot = 0; slot < PATTERNS; slot++) {
                if (hasPattern(rowCount, slot)) {
                    return true;
                }
            }
            return false;
        }

        void print(int u) {
            if (printedLength < printed.length) {
                printed[printedLength] = (char) u;
                printedLength++;
            }
        }

        void printGap() {
            if (printedLength > 0 && printedAt(printedLength - 1) != LINE_END) {
                print(' ');
            }
        }

        void printWhole(int value) {
            printGap();
            for (int tens = 100000; tens > 0; tens /= 10) {
                if (value >= tens || tens == 1) {
                    print('0' + value / tens % 10);
                }
            }
        }

        int printedAt(int place) {
            return place >= 0 && place < printedLength && place < printed.length ? printed[place] : NONE;
        }

        /** The pins that a pattern of a row matches, a bit for each. */
        long hitsOf(int row, int slot) {
            int pattern = patternOf(row, slot);
            return pattern == NONE ? 0 : hits[pattern];
        }

        void matchPin(Pins pins, int pin) {
            for (int pattern = 0; pattern < rowCount * PATTERNS; pattern++) {
                if (patternLengths[pattern] > 0) {
                    long others = hits[pattern] & ~(1L << pin);
                    hits[pattern] = fits(pattern, pins, pin) ? others | 1L << pin : others;
                }
            }
        }

        /** Bit q of 'reached' says that the first q characters of the pattern can be read as the name so far. */
        private boolean fits(int pattern, Pins pins, int pin) {
            int length = pins.lengthOf(pin);
            if (length == 0) {
                return false;
            }
            int reached = reachedByStars(pattern);
            for (int i = 0; i < length && reached != 0; i++) {
                reached = reachedBy(pattern, reached, pins.at(pin, i));
            }
            return (reached >> patternLengths[pattern] & 1) == 1;
        }

        private int reachedByStars(int pattern) {
            int reached = 1;
            for (int q = 0; q < patternLengths[pattern]; q++) {
                if (printedAt(patternStarts[pattern] + q) != '*') {
                    break;
                }
                reached |= 2 << q;
            }
            return reached;
        }

        private int reachedBy(int pattern, int reached, int u) {
            int next = 0;
            for (int q = 0; q < patternLengths[pattern]; q++) {
                int wanted = printedAt(patternStarts[pattern] + q);
                int here = reached & 1 << q;
                if (wanted == '*') {
                    next |= here;
                    next |= (next & 1 << q) << 1;
                } else if (wanted == '?' || wanted == u) {
                    next |= here << 1;
                }
            }
            return next;
        }

        /** The clock that a row names beside its own one. */
        int linkOf(int row, int which) {
            boolean known = row >= 1 && row <= rowCount && which >= 0 && which < LINKS;
            return known ? links[(row - 1) * LINKS + which] : NONE;
        }

        boolean saysApart(int a, int b) {
            for (int row = 1; row <= rowCount; row++) {
                if (sorts[row - 1] == APART) {
                    int c = linkOf(row, 0);
                    int d = linkOf(row, 1);
                    if (c == a && d == b || c == b && d == a) {
                        return true;
                    }
                }
            }
            return false;
        }

        int winner(int from, int through, int to) {
            int best = 0;
            int bestRank = 0;
            for (int row = 1; row <= rowCount; row++) {
                int strength = strengthOf(sorts[row - 1]);
                boolean holds = strength > 0 && admits(row, FROM, from)
                        && admits(row, THROUGH, through) && admits(row, TO, to);
                int rank = strength * 8 + weightOf(row);
                if (holds && rank >= bestRank) {
                    best = row;
                    bestRank = rank;
                }
            }
            return best;
        }

        private static int strengthOf(int sort) {
            switch (sort) {
                case FALSE:
                    return 3;
                case MOST:
                case LEAST:
                    return 2;
                case CYCLES:
                    return 1;
                default:
                    return 0;
            }
        }

        private int weightOf(int row) {
            return (hasPattern(row, FROM) ? 4 : 0) + (hasPattern(row, TO) ? 2 : 0) + (hasPattern(row, THROUGH) ? 1 : 0);
        }

        private boolean admits(int row, int slot, int pin) {
            return !hasPattern(row, slot) || matches(row, slot, pin);
        }

        private boolean hasPattern(int row, int slot) {
            int pattern = patternOf(row, slot);
            return pattern != NONE && patternLengths[pattern] > 0;
        }

        private boolean matches(int row, int slot, int pin) {
            return pin != NONE && (hitsOf(row, slot) >>> pin & 1) == 1;
        }

        int latestValue(int sort, int pin) {
            for (int row = rowCount; row >= 1; row--) {
                if (sorts[row - 1] == sort && matches(row, FROM, pin)) {
                    return values[row - 1];
                }
            }
            return NONE;
        }

        int idleRow(int k) {
            int before = 0;
            for (int row = 1; row <= rowCount; row++) {
                if (isIdle(row)) {
                    if (before == k) {
                        return row;
                    }
                    before++;
                }
            }
            return NONE;
        }

        private boolean isIdle(int row) {
            for (int slot = 0; slot < PATTERNS; slot++) {
                if (hasPattern(row, slot) && hitsOf(row, slot) == 0) {
                    return true;
                }
            }
            return false;
        }

        int clashingRow(int k, int which) {
            int before = 0;
            for (int lesser = 1; lesser <= rowCount; lesser++) {
                for (int greater = lesser + 1; greater <= rowCount; greater++) {
                    if (haveClash(lesser, greater)) {
                        if (before == k) {
                            return which == 0 ? lesser : greater;
                        }
                        before++;
                    }
                }
            }
            return NONE;
        }

        private boolean haveClash(int one, int other) {
            int sort = sorts[one - 1];
            int otherSort = sorts[other - 1];
            boolean bothClocks = makesClock(sort) && makesClock(otherSort);
            boolean bothValues = (sort == LOAD || sort == SLOPE) && sort == otherSort
                    && values[one - 1] != values[other - 1];
            return (bothClocks || bothValues) && (hitsOf(one, FROM) & hitsOf(other, FROM)) != 0;
        }
    }

    /** Reads the tape into a sheet. The word in hand is the one that is looked at; it is the fault if it cannot stand. */
    private static final class Reader {
        private final Tape tape = new Tape();
        private final int[] nameStarts = new int[CLOCKS];
        private final int[] nameLengths = new int[CLOCKS];
        // Names of clocks that may come later, by the places of the sheet's links.
        private final int[] linkStarts = new int[ROWS * LINKS];
        private final int[] linkLengths = new int[ROWS * LINKS];
        // The tape is read into a spare sheet, so that the rows before stay if it has a fault.
        private Sheet sheet = new Sheet();
        private int start = 0;
        private int end = 0;

        /** Gives the sheet that was read away, for an old one to read into. */
        Sheet exchange(Sheet old) {
            Sheet full = sheet;
            sheet = old;
            return full;
        }

        /** The fault of the text on the tape; NONE if it was read into the sheet. */
        int faultOfTape() {
            sheet.wipe();
            start = 0;
            end = 0;
            Arrays.fill(linkLengths, 0);
            for (int i = 0; i <= ROWS; i++) {
                takeWord();
                if (start == tape.length) {
                    break;
                }
                if (i == ROWS || !takeRow()) {
                    return start;
                }
            }
            return bindLinks() && hasNoRing() && hasNoneGreat() ? NONE : start;
        }

        private boolean takeRow() {
            int sort = sortInHand();
            if (sort == NONE) {
                return false;
            }
            sheet.open(sort);
            printWord();
            boolean fine;
            switch (sort) {
                case CLOCK:
                    fine = takeNewClock() && takeTimes() && takePattern(FROM);
                    break;
                case DERIVE:
                case TURNED:
                    fine = takeNewClock() && takeLink(0) && takeRatio(sort == TURNED) && takePattern(FROM);
                    break;
                case APART:
                    fine = takeLink(0) && takeLink(1);
                    break;
                case FALSE:
                    fine = takePath();
                    break;
                case CYCLES:
                    fine = takeValue(2, 100) && takePath();
                    break;
                case MOST:
                case LEAST:
                    fine = takeValue(0, GREATEST_WHOLE) && takePath();
                    break;
                default:
                    fine = takeValue(0, GREATEST_WHOLE) && takePattern(FROM);
                    break;
            }
            return fine && takeEnd();
        }

        /** Behind the last word the one in hand is empty, at the text's length. */
        private void takeWord() {
            int from = end;
            while (from < tape.length && isBlank(tape.at(from))) {
                from++;
            }
            int to = from;
            while (to < tape.length && !isBlank(tape.at(to)) && tape.at(to) != ';') {
                to++;
            }
            if (to == from && tape.at(to) == ';') {
                to++;
            }
            start = from;
            end = to;
        }

        private boolean takeNewClock() {
            takeWord();
            int clock = sheet.clocks.size;
            if (!isNameInHand() || clock >= CLOCKS || clockNamed(start, end - start) != NONE) {
                return false;
            }
            nameStarts[clock] = start;
            nameLengths[clock] = end - start;
            sheet.clocks.open(sheet.rowCount);
            printWord();
            return true;
        }

        private boolean takeTimes() {
            int period = takeWhole(1, GREATEST_WHOLE);
            if (period == NONE) {
                return false;
            }
            int rise = takeWhole(0, period - 1);
            if (rise == NONE) {
                return false;
            }
            int fall = takeWhole(0, period - 1);
            if (fall == NONE || fall == rise) {
                return false;
            }
            sheet.clocks.setTimes(period, rise, fall);
            return true;
        }

        private boolean takeLink(int which) {
            takeWord();
            int link = (sheet.rowCount - 1) * LINKS + which;
            if (!isNameInHand() || link < 0 || link >= linkStarts.length) {
                return false;
            }
            linkStarts[link] = start;
            linkLengths[link] = end - start;
            printWord();
            return true;
        }

        private boolean takeRatio(boolean isTurned) {
            int upper = takeWhole(1, GREATEST_RATIO);
            if (upper == NONE) {
                return false;
            }
            int lower = takeWhole(1, GREATEST_RATIO);
            if (lower == NONE) {
                return false;
            }
            sheet.clocks.setRatio(upper, lower, isTurned);
            return true;
        }

        private boolean takeValue(int least, int most) {
            int value = takeWhole(least, most);
            if (value == NONE) {
                return false;
            }
            sheet.setValue(value);
            return true;
        }

        /** A number from least on, which is not below 0, to most; NONE if there is none such. */
        private int takeWhole(int least, int most) {
            takeWord();
            int value = wholeInHand();
            if (value < least || value > most) {
                return NONE;
            }
            sheet.printWhole(value);
            return value;
        }

        private boolean takePath() {
            for (int slot = 0; slot < PATTERNS; slot++) {
                takeWord();
                if (isAnyInHand()) {
                    printWord();
                } else if (!keepPattern(slot)) {
                    return false;
                }
            }
            return sheet.newestHasPattern();
        }

        private boolean takePattern(int slot) {
            takeWord();
            return keepPattern(slot);
        }

        private boolean keepPattern(int slot) {
            if (!isPatternInHand()) {
                return false;
            }
            printWord();
            sheet.setPattern(slot, end - start);
            return true;
        }

        private boolean takeEnd() {
            takeWord();
            if (tape.at(start) != ';') {
                return false;
            }
            sheet.print(';');
            sheet.print(LINE_END);
            return true;
        }

        private void printWord() {
            sheet.printGap();
            for (int i = start; i < end; i++) {
                sheet.print(tape.at(i));
            }
        }

        private int sortInHand() {
            for (int sort = 0; sort < SORTS; sort++) {
                if (isInHand(keyword(sort))) {
                    return sort;
                }
            }
            return NONE;
        }

        private boolean isInHand(String word) {
            if (word.length() != end - start) {
                return false;
            }
            for (int i = 0; i < word.length(); i++) {
                if (word.charAt(i) != tape.at(start + i)) {
                    return false;
                }
            }
            return true;
        }

        private boolean isAnyInHand() {
            return end - start == 1 && tape.at(start) == '-';
        }

        private boolean isNameInHand() {
            if (end == start || end - start > CLOCK_NAME_ROOM) {
                return false;
            }
            for (int i = start; i < end; i++) {
                if (!isSmallLetter(tape.at(i))) {
                    return false;
                }
            }
            return true;
        }

        private boolean isPatternInHand() {
            if (end == start || end - start > PATTERN_ROOM) {
                return false;
            }
            for (int i = start; i < end; i++) {
                int u = tape.at(i);
                if (!isNameUnit(u) && u != '*' && u != '?') {
                    return false;
                }
            }
            return true;
        }

        private int wholeInHand() {
            if (end == start || end - start > WHOLE_ROOM) {
                return NONE;
            }
            int value = 0;
            for (int i = start; i < end; i++) {
                int u = tape.at(i);
                if (!isDigit(u)) {
                    return NONE;
                }
                value = value * 10 + (u - '0');
            }
            return value;
        }

        private int clockNamed(int from, int length) {
            for (int clock = 0; clock < sheet.clocks.size; clock++) {
                if (nameLengths[clock] == length && isSameText(nameStarts[clock], from, length)) {
                    return clock;
                }
            }
            return NONE;
        }

        private boolean isSameText(int one, int other, int length) {
            for (int i = 0; i < length; i++) {
                if (tape.at(one + i) != tape.at(other + i)) {
                    return false;
                }
            }
            return true;
        }

        /** Links stand in the order of the text, so the first that fails is the fault. */
        private boolean bindLinks() {
            for (int link = 0; link < sheet.rowCount * LINKS; link++) {
                if (linkLengths[link] > 0) {
                    int clock = clockNamed(linkStarts[link], linkLengths[link]);
                    if (clock == NONE) {
                        start = linkStarts[link];
                        return false;
                    }
                    sheet.links[link] = clock;
                }
            }
            for (int clock = 0; clock < sheet.clocks.size; clock++) {
                sheet.clocks.sources[clock] = sheet.linkOf(sheet.clocks.rows[clock], 0);
            }
            return true;
        }

        private boolean hasNoRing() {
            for (int clock = 0; clock < sheet.clocks.size; clock++) {
                if (sheet.clocks.inRing(clock)) {
                    start = nameStarts[clock];
                    return false;
                }
            }
            return true;
        }

        private boolean hasNoneGreat() {
            sheet.clocks.settleAll();
            for (int clock = 0; clock < sheet.clocks.size; clock++) {
                if (sheet.clocks.great[clock]) {
                    start = nameStarts[clock];
                    return false;
                }
            }
            return true;
        }
    }
}
