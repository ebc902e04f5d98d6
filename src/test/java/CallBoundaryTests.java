/** The boundary cases of the sentences of each promise and of the public face; each test is named after its sentence. */
public final class CallBoundaryTests {
    private static final int NONE = ConstraintText.NONE;
    private static final int LEAST = Integer.MIN_VALUE;
    private static final int MOST = Integer.MAX_VALUE;
    private static final String EVERY_SORT = "clock c 10 0 5 a;derive d c 1 3 *;turned e d 2 1 b;apart c d;false a - -;"
            + "cycles 100 - b -;most 0 - - c;least 999999 a b c;load 4 a*;slope 0 zz;";
    private static final Checks CHECKS = new Checks();

    private CallBoundaryTests() {
    }

    public static void main(String[] args) {
        aNewObjectHasNamelessPinsAndNoRows();
        unitAnswersWhetherItWasOneAndThereWasRoom();
        unitsComeHighestByteFirst();
        unitsOf0AreLeftOut();
        unitsAllComeOrNone();
        nameAnswersWhetherItWasOneAndThereWasRoom();
        readEmptiesTheTapeAndReplacesTheRows();
        readWithAFaultLeavesTheRows();
        clockTellsItsTimesOverTheLeastCommonLowerNumber();
        clockTellsItsRowItsSourceAndItsPins();
        clockRefusesOtherClocksAndWhats();
        edgesComeInOrderFromTime0On();
        edgesAreInLowestTerms();
        edgeRefusesOtherPlaces();
        distanceIsInLowestTerms();
        distanceOfClocksApartIs0And1();
        distanceRefusesOtherClocksAndParts();
        exceptionIs0IfThereIsNone();
        exceptionRefusesOtherPins();
        rowTellsItsSort();
        rowTellsItsValue();
        rowRefusesOtherRowsAndWhats();
        loadIsNoneIfThereIsNone();
        loadRefusesOtherPinsAndWhats();
        unmatchedRowsFrom0On();
        unmatchedRefusesBelow0();
        clashesByLesserThenGreaterRow();
        clashRefusesOtherPlacesAndRows();
        writePrintsNumbersWithout0sBeforeThem();
        writePrintsOneBlankBetweenWords();
        writeIsNoneBehindTheEnd();
        writeRefusesBelow0();
        countTellsHowMany();
        countRefusesOtherWhats();
        severalWrongArgumentsAreRefusedAlike();
        aCallThatThrowsChangesNothing();
        anObjectIsGoodFor512Calls();
        CHECKS.end("boundaries of the calls");
    }

    private static ConstraintText reading(String rows) {
        ConstraintText text = Use.withPins("a", "b", "c");
        Use.read(text, rows);
        return text;
    }

    private static void aNewObjectHasNamelessPinsAndNoRows() {
        CHECKS.sentence("Promise 1", "Nameless pins, no rows.");
        ConstraintText text = new ConstraintText();
        for (int what = 0; what < 4; what++) {
            CHECKS.same("count(" + what + ")", text.count(what), 0);
        }
        CHECKS.same("write(0)", text.write(0), NONE);
        CHECKS.same("unmatched(0)", text.unmatched(0), NONE);
        CHECKS.same("clash(0, 0)", text.clash(0, 0), NONE);
        CHECKS.same("clash(0, 1)", text.clash(0, 1), NONE);
        CHECKS.same("exception(0, 39, NONE)", text.exception(0, 39, NONE), 0);
        CHECKS.same("load(39, 1)", text.load(39, 1), NONE);
        CHECKS.refused("row(1, 0)", () -> text.row(1, 0));
        CHECKS.refused("row(0, 0)", () -> text.row(0, 0));
        CHECKS.refused("clock(0, 0)", () -> text.clock(0, 0));
        CHECKS.refused("edge(0, 0, 0)", () -> text.edge(0, 0, 0));
        CHECKS.refused("distance(0, 0, 0)", () -> text.distance(0, 0, 0));
        CHECKS.same("read()", text.read(), 0);
        Use.read(text, "clock c 2 0 1 *;load 1 *;");
        CHECKS.same("pins that * matches", text.clock(0, 6), 0);
        CHECKS.same("rows that match no pin", text.unmatched(1), 2);
    }

    private static void unitAnswersWhetherItWasOneAndThereWasRoom() {
        CHECKS.sentence("Promise 2", "A character more on the tape: whether it was one and there was room.");
        ConstraintText text = new ConstraintText();
        int taken = 0;
        for (int u = 0; u < 256; u++) {
            boolean due = u == 10 || u >= 32 && u <= 126;
            CHECKS.same("unit(" + u + ")", text.unit(u) ? 1 : 0, due ? 1 : 0);
            taken += due ? 1 : 0;
            CHECKS.same("characters behind unit(" + u + ")", text.count(2), taken);
        }
        ConstraintText full = new ConstraintText();
        Use.put(full, " ".repeat(1199));
        for (int u : new int[] {9, 31, 127, -1, LEAST, MOST, 256 + 32, 65536 + 32}) {
            CHECKS.no("unit(" + u + ")", full.unit(u));
        }
        CHECKS.yes("the 1200th", full.unit(' '));
        CHECKS.no("the 1201st", full.unit(' '));
        CHECKS.no("a wrong one without room", full.unit(9));
        CHECKS.same("characters", full.count(2), 1200);
        CHECKS.same("read()", full.read(), 0);
        CHECKS.yes("there is room again", full.unit(' '));
    }

    private static void unitsComeHighestByteFirst() {
        CHECKS.sentence("Promise 3", "Four characters more, the highest byte first");
        ConstraintText text = Use.withPins("a");
        CHECKS.yes("load", text.units(0x6c6f6164));
        CHECKS.yes(" 12 ", text.units(0x20313220));
        CHECKS.yes("a;\\n~", text.units(0x613b0a7e));
        CHECKS.same("characters", text.count(2), 12);
        CHECKS.same("the fault is the ~", text.read(), -1 - 11);
        Use.read(text, "load 12 a;");
        CHECKS.same("the load", text.load(0, 0), 12);
    }

    private static void unitsOf0AreLeftOut() {
        CHECKS.sentence("Promise 3", "0s are left out");
        ConstraintText text = new ConstraintText();
        CHECKS.yes("four 0s", text.units(0));
        CHECKS.same("characters behind four 0s", text.count(2), 0);
        int[] fours = {0x78000000, 0x00780000, 0x00007800, 0x00000078, 0x78000078, 0x00787800, 0x78780078, 0x78787878};
        int due = 0;
        for (int four : fours) {
            due += Integer.bitCount(four) / 4;
            CHECKS.yes("units(" + four + ")", text.units(four));
            CHECKS.same("characters behind units(" + four + ")", text.count(2), due);
        }
        ConstraintText word = new ConstraintText();
        word.units(0x6c006f00);
        word.units(0x00610064);
        word.units(0x20312061);
        CHECKS.yes("the ; alone", word.units(0x00003b00));
        CHECKS.same("a row with 0s in it", word.read(), 1);
    }

    private static void unitsAllComeOrNone() {
        CHECKS.sentence("Promise 3", "whether all were such, and there was room for them (else none comes)");
        ConstraintText text = new ConstraintText();
        for (int bad : new int[] {0x1f, 0x7f, 0x09, 0x0b, 0x01, 0x80, 0xa0, 0xff}) {
            for (int shift = 0; shift < 32; shift += 8) {
                int four = 0x61616161 & ~(255 << shift) | bad << shift;
                CHECKS.no("units(" + four + ")", text.units(four));
                CHECKS.no("units(" + (bad << shift) + ")", text.units(bad << shift));
            }
        }
        CHECKS.no("units(-1)", text.units(-1));
        CHECKS.no("units(LEAST)", text.units(LEAST));
        CHECKS.no("units(MOST)", text.units(MOST));
        CHECKS.same("none came", text.count(2), 0);
        CHECKS.yes("the least and the greatest", text.units(0x20207e0a));
        for (int room = 0; room < 4; room++) {
            ConstraintText full = new ConstraintText();
            Use.put(full, " ".repeat(1200 - room));
            int most = 0x20202020 >>> 8 * (4 - room);
            CHECKS.no("one more than " + room, full.units(0x20202020 >>> 8 * (3 - room)));
            CHECKS.same("none came", full.count(2), 1200 - room);
            CHECKS.no("a wrong one", full.units(0x7f));
            CHECKS.yes("as many as " + room, full.units(room == 0 ? 0 : most));
            CHECKS.same("the tape is full", full.count(2), 1200);
            CHECKS.no("no room", full.units(0x20));
            CHECKS.yes("none needs no room", full.units(0));
        }
    }

    private static void nameAnswersWhetherItWasOneAndThereWasRoom() {
        CHECKS.sentence("Promise 4", "A character more of a pin's name: whether it was one, and there was room. "
                + "IndexOutOfBoundsException.");
        ConstraintText text = new ConstraintText();
        for (int i = 0; i < 16; i++) {
            CHECKS.no("a wrong one", text.name(39, 'A'));
            CHECKS.yes("character " + i, text.name(39, 'z'));
        }
        CHECKS.no("character 16", text.name(39, 'z'));
        CHECKS.no("a wrong one without room", text.name(39, 'A'));
        CHECKS.yes("pin 38 has room", text.name(38, 'z'));
        CHECKS.yes("pin 0 has room", text.name(0, 'z'));
        for (int pin : new int[] {-1, 40, LEAST, MOST, 65536, -40}) {
            CHECKS.refused("name(" + pin + ", a)", () -> text.name(pin, 'a'));
            CHECKS.refused("name(" + pin + ", A)", () -> text.name(pin, 'A'));
        }
        Use.read(text, "load 1 zzzzzzzzzzzzzzzz;clock c 2 0 1 z;");
        CHECKS.same("16 characters came", text.load(39, 0), 1);
        CHECKS.same("one each came", text.clock(0, 6), 2);
    }

    private static void readEmptiesTheTapeAndReplacesTheRows() {
        CHECKS.sentence("Promise 5", "The tape (which is empty then) is read, in place of the rows before: how many rows");
        ConstraintText text = reading("load 1 a;load 2 b;clock c 2 0 1 a;");
        CHECKS.same("characters behind read", text.count(2), 0);
        CHECKS.same("three rows", text.count(0), 3);
        CHECKS.same("one row", Use.read(text, "slope 3 a;"), 1);
        CHECKS.same("one row", text.count(0), 1);
        CHECKS.same("no clock", text.count(1), 0);
        CHECKS.same("no load", text.load(0, 0), NONE);
        CHECKS.same("the slope", text.load(0, 1), 3);
        CHECKS.refused("row 2", () -> text.row(2, 0));
        CHECKS.same("an empty tape", text.read(), 0);
        CHECKS.same("no row", text.count(0), 0);
        CHECKS.same("no slope", text.load(0, 1), NONE);
        CHECKS.same("nothing printed", text.count(3), 0);
        CHECKS.same("an empty tape again", text.read(), 0);
        String forty = "load 1 a;".repeat(40);
        CHECKS.same("forty rows", Use.read(text, forty), 40);
        CHECKS.same("forty rows", text.count(0), 40);
        patternsBeforeAreGone();
    }

    private static void patternsBeforeAreGone() {
        ConstraintText text = reading("false a zz c;false zz - -;");
        for (int i = 0; i < 3; i++) {
            Use.read(text, "false - b -;apart c c;clock c 2 0 1 a;");
            CHECKS.same("a row without its patterns of before", text.exception(NONE, 1, NONE), 1);
            CHECKS.same("no row matches no pin", text.unmatched(0), NONE);
            Use.read(text, "false zz - -;false a zz c;load 1 zz;");
            CHECKS.same("a row with other patterns", text.exception(NONE, 1, NONE), 0);
            CHECKS.same("each row matches no pin", text.unmatched(2), 3);
            // A third text, so that what an object keeps of one, or of two, texts before would show.
            Use.read(text, "most 1 a zz c;least 1 zz zz zz;");
            CHECKS.same("each row matches no pin", text.unmatched(1), 2);
        }
    }

    private static void readWithAFaultLeavesTheRows() {
        CHECKS.sentence("Promise 5", "-1 less the fault: then these stay");
        String before = "clock c 7 3 5 a;load 2 b;apart c c;";
        ConstraintText text = reading(before);
        String[] faulty = {"x", "load 9 b;;", "load 9 b;clock c 9 0 1 b;clock", "derive c d 1 1 b;load 9 b;",
            "clock c 9 0 1 b;derive d d 1 1 b;", "clock c 1001 0 1 b;derive d c 1000 1 b;", "load 9 b;".repeat(41)};
        int[] places = {0, 9, 30, 9, 23, 26, 360};
        for (int i = 0; i < faulty.length; i++) {
            CHECKS.same("read '" + faulty[i] + "'", Use.read(text, faulty[i]), -1 - places[i]);
            CHECKS.same("the tape is empty", text.count(2), 0);
            CHECKS.same("rows", text.count(0), 3);
            CHECKS.same("clocks", text.count(1), 1);
            CHECKS.same("period", text.clock(0, 0), 7);
            CHECKS.same("pins", text.clock(0, 6), 1);
            CHECKS.same("load", text.load(1, 0), 2);
            CHECKS.same("apart", text.distance(0, 0, 0), 0);
        }
        CHECKS.same("printed", Use.printed(text), before.replace(";", ";\n"));
    }

    private static void factsAre(ConstraintText text, int clock, int... due) {
        for (int what = 0; what < due.length; what++) {
            CHECKS.same("clock(" + clock + ", " + what + ")", text.clock(clock, what), due[what]);
        }
    }

    private static void clockTellsItsTimesOverTheLeastCommonLowerNumber() {
        CHECKS.sentence("Promise 6", "what = 0 to 2 upper numbers of its period, rise and fall with the least common "
                + "lower number, 3 that one");
        ConstraintText text = reading("clock c 6 0 4 a;derive d c 1 4 a;derive e c 1 2 a;derive f c 2 3 a;"
                + "clock g 999999 999998 0 a;derive h g 1000 1000 a;clock i 1000 999 0 a;derive j i 1000 1 a;"
                + "clock k 3 2 1 a;derive l k 1 1000 a;derive m l 1 1000 a;");
        factsAre(text, 0, 6, 0, 4, 1);
        factsAre(text, 1, 3, 0, 2, 2);
        factsAre(text, 2, 3, 0, 2, 1);
        factsAre(text, 3, 12, 0, 8, 3);
        factsAre(text, 5, 999999, 999998, 0, 1);
        factsAre(text, 7, 1000000, 999000, 0, 1);
        factsAre(text, 10, 3, 2, 1, 1000000);
    }

    private static void clockTellsItsRowItsSourceAndItsPins() {
        CHECKS.sentence("Promise 6", "4 its row, 5 the clock it is derived from (NONE), 6 how many pins it is at");
        ConstraintText text = reading("clock c 6 0 4 zz;derive d f 1 4 *;load 1 a;turned f c 1 2 a;"
                + "load 1 a;".repeat(35) + "derive g d 1 1 ?;");
        int[] rows = {1, 2, 4, 40};
        int[] sources = {NONE, 2, 0, 1};
        int[] pins = {0, 3, 1, 3};
        for (int clock = 0; clock < 4; clock++) {
            CHECKS.same("row of clock " + clock, text.clock(clock, 4), rows[clock]);
            CHECKS.same("source of clock " + clock, text.clock(clock, 5), sources[clock]);
            CHECKS.same("pins of clock " + clock, text.clock(clock, 6), pins[clock]);
        }
        for (int pin = 3; pin < 40; pin++) {
            text.name(pin, 'x');
        }
        CHECKS.same("all 40 pins", text.clock(1, 6), 40);
    }

    private static void clockRefusesOtherClocksAndWhats() {
        CHECKS.sentence("Promise 6", "IndexOutOfBoundsException.");
        ConstraintText text = reading("clock c 6 0 4 a;clock d 6 0 4 a;");
        for (int clock : new int[] {-1, 2, 11, 12, LEAST, MOST}) {
            for (int what = 0; what < 7; what++) {
                int which = what;
                CHECKS.refused("clock(" + clock + ", " + what + ")", () -> text.clock(clock, which));
            }
        }
        for (int what : new int[] {-1, 7, LEAST, MOST}) {
            CHECKS.refused("clock(1, " + what + ")", () -> text.clock(1, what));
        }
        CHECKS.same("the last clock's first fact", text.clock(1, 0), 6);
        CHECKS.same("the last clock's last fact", text.clock(1, 6), 1);
        Use.read(text, "load 1 a;");
        CHECKS.refused("a clock of the text before", () -> text.clock(0, 0));
    }

    private static void edgeIs(ConstraintText text, int clock, int k, long upper, long lower, long rises) {
        CHECKS.same("edge(" + clock + ", " + k + ", 0)", text.edge(clock, k, 0), upper);
        CHECKS.same("edge(" + clock + ", " + k + ", 1)", text.edge(clock, k, 1), lower);
        CHECKS.same("edge(" + clock + ", " + k + ", 2)", text.edge(clock, k, 2), rises);
    }

    private static void edgesComeInOrderFromTime0On() {
        CHECKS.sentence("Promise 7", "Of edge k of a clock, in order from time 0 on");
        ConstraintText text = reading("clock c 10 0 1 a;clock d 10 9 8 a;turned e c 1 1 a;turned f d 1 1 a;");
        edgeIs(text, 0, 0, 0, 1, 1);
        edgeIs(text, 0, 1, 1, 1, 0);
        edgeIs(text, 0, 2, 10, 1, 1);
        edgeIs(text, 1, 0, 8, 1, 0);
        edgeIs(text, 1, 1, 9, 1, 1);
        edgeIs(text, 1, 2, 18, 1, 0);
        edgeIs(text, 2, 0, 0, 1, 0);
        edgeIs(text, 2, 1, 1, 1, 1);
        edgeIs(text, 3, 0, 8, 1, 1);
        edgeIs(text, 3, 3, 19, 1, 0);
    }

    private static void edgesAreInLowestTerms() {
        CHECKS.sentence("Promise 7", "part = 0 the upper, 1 the lower number of its time in lowest terms, 2 whether it "
                + "rises (1)");
        ConstraintText text = reading("clock c 6 0 4 a;derive d c 5 12 a;clock e 999999 0 999998 a;"
                + "derive f e 1 1000 a;");
        edgeIs(text, 1, 0, 0, 1, 1);
        edgeIs(text, 1, 1, 5, 3, 0);
        edgeIs(text, 1, 2, 5, 2, 1);
        edgeIs(text, 1, 3, 25, 6, 0);
        edgeIs(text, 1, 4, 5, 1, 1);
        edgeIs(text, 3, 1, 499999, 500, 0);
        edgeIs(text, 3, 2, 999999, 1000, 1);
        edgeIs(text, 3, 1000, 999999, 2, 1);
        edgeIs(text, 2, 999, 499L * 999999 + 999998, 1, 0);
        edgeIs(text, 2, 1000, 499999500, 1, 1);
    }

    private static void edgeRefusesOtherPlaces() {
        CHECKS.sentence("Promise 7", "IndexOutOfBoundsException: also k is not 0 .. 1000.");
        ConstraintText text = reading("clock c 10 0 5 a;");
        CHECKS.same("edge 0", text.edge(0, 0, 0), 0);
        CHECKS.same("edge 1000", text.edge(0, 1000, 0), 5000);
        for (int k : new int[] {-1, 1001, LEAST, MOST}) {
            for (int part = 0; part < 3; part++) {
                int which = part;
                CHECKS.refused("edge(0, " + k + ", " + part + ")", () -> text.edge(0, k, which));
            }
        }
        for (int clock : new int[] {-1, 1, 12, LEAST, MOST}) {
            CHECKS.refused("edge(" + clock + ", 0, 0)", () -> text.edge(clock, 0, 0));
        }
        for (int part : new int[] {-1, 3, LEAST, MOST}) {
            CHECKS.refused("edge(0, 0, " + part + ")", () -> text.edge(0, 0, part));
        }
    }

    private static void distanceIs(ConstraintText text, int a, int b, long upper, long lower) {
        CHECKS.same("distance(" + a + ", " + b + ", 0)", text.distance(a, b, 0), upper);
        CHECKS.same("distance(" + a + ", " + b + ", 1)", text.distance(a, b, 1), lower);
    }

    private static void distanceIsInLowestTerms() {
        CHECKS.sentence("Promise 8", "The DISTANCE of two clocks in lowest terms: part = 0 the upper, 1 the lower "
                + "number");
        ConstraintText text = reading("clock c 6 0 4 a;derive d c 5 12 a;derive e c 1 4 a;clock f 999999 5 0 a;");
        distanceIs(text, 0, 0, 6, 1);
        distanceIs(text, 1, 1, 5, 2);
        distanceIs(text, 0, 1, 1, 2);
        distanceIs(text, 1, 2, 1, 2);
        distanceIs(text, 3, 3, 999999, 1);
        distanceIs(text, 0, 3, 2, 1);
        distanceIs(text, 3, 0, 1, 1);
    }

    private static void distanceOfClocksApartIs0And1() {
        CHECKS.sentence("Promise 8", "0 and 1 if some row says that they are apart (in either order)");
        ConstraintText text = reading("apart d c;clock c 6 0 4 a;clock d 5 1 0 a;clock e 4 1 0 a;apart e e;");
        distanceIs(text, 0, 1, 0, 1);
        distanceIs(text, 1, 0, 0, 1);
        distanceIs(text, 2, 2, 0, 1);
        distanceIs(text, 0, 0, 6, 1);
        distanceIs(text, 1, 1, 5, 1);
        distanceIs(text, 0, 2, 1, 1);
        distanceIs(text, 1, 2, 1, 1);
        Use.read(text, "clock c 6 0 4 a;clock d 5 1 0 a;" + "load 1 a;".repeat(37) + "apart c d;");
        distanceIs(text, 1, 0, 0, 1);
        Use.read(text, "clock c 6 0 4 a;clock d 5 1 0 a;");
        distanceIs(text, 1, 0, 1, 1);
    }

    private static void distanceRefusesOtherClocksAndParts() {
        CHECKS.sentence("Promise 8", "IndexOutOfBoundsException.");
        ConstraintText text = reading("clock c 6 0 4 a;clock d 6 0 4 a;apart c c;");
        for (int clock : new int[] {-1, 2, 12, LEAST, MOST}) {
            CHECKS.refused("distance(" + clock + ", 0, 0)", () -> text.distance(clock, 0, 0));
            CHECKS.refused("distance(0, " + clock + ", 1)", () -> text.distance(0, clock, 1));
            CHECKS.refused("distance(" + clock + ", " + clock + ", 0)", () -> text.distance(clock, clock, 0));
        }
        for (int part : new int[] {-1, 2, LEAST, MOST}) {
            CHECKS.refused("distance(0, 1, " + part + ")", () -> text.distance(0, 1, part));
            CHECKS.refused("distance(0, 0, " + part + ") of clocks apart", () -> text.distance(0, 0, part));
        }
    }

    private static void exceptionIs0IfThereIsNone() {
        CHECKS.sentence("Promise 9", "The row of the exception that wins; 0 if there is none.");
        ConstraintText text = reading("load 1 a;false a - -;" + "load 1 a;".repeat(37) + "most 1 - - b;");
        CHECKS.same("exception(0, NONE, NONE)", text.exception(0, NONE, NONE), 2);
        CHECKS.same("exception(NONE, NONE, 1)", text.exception(NONE, NONE, 1), 40);
        CHECKS.same("exception(1, 1, 0)", text.exception(1, 1, 0), 0);
        CHECKS.same("exception(NONE, NONE, NONE)", text.exception(NONE, NONE, NONE), 0);
        CHECKS.same("exception(39, 39, 39)", text.exception(39, 39, 39), 0);
        Use.read(text, "false a - -;");
        CHECKS.same("row 1", text.exception(0, 39, NONE), 1);
    }

    private static void exceptionRefusesOtherPins() {
        CHECKS.sentence("Promise 9", "IndexOutOfBoundsException: there is no such pin, and it is not NONE.");
        ConstraintText text = reading("false a - -;");
        for (int pin : new int[] {-2, 40, LEAST, MOST}) {
            CHECKS.refused("exception(" + pin + ", 0, 0)", () -> text.exception(pin, 0, 0));
            CHECKS.refused("exception(0, " + pin + ", 0)", () -> text.exception(0, pin, 0));
            CHECKS.refused("exception(0, 0, " + pin + ")", () -> text.exception(0, 0, pin));
            CHECKS.refused("exception(" + pin + ", NONE, NONE)", () -> text.exception(pin, NONE, NONE));
        }
        for (int pin : new int[] {NONE, 0, 39}) {
            CHECKS.same("exception(0, " + pin + ", " + pin + ")", text.exception(0, pin, pin), 1);
        }
    }

    private static void rowTellsItsSort() {
        CHECKS.sentence("Promise 10", "what = 0 its sort: 0 clock, 1 derive, 2 turned, 3 apart, 4 false, 5 cycles, 6 most, "
                + "7 least, 8 load, 9 slope");
        ConstraintText text = reading(EVERY_SORT);
        for (int row = 1; row <= 10; row++) {
            CHECKS.same("row(" + row + ", 0)", text.row(row, 0), row - 1);
        }
    }

    private static void rowTellsItsValue() {
        CHECKS.sentence("Promise 10", "1 its K or V (0 for others)");
        ConstraintText text = reading(EVERY_SORT);
        int[] values = {0, 0, 0, 0, 0, 100, 0, 999999, 4, 0};
        for (int row = 1; row <= 10; row++) {
            CHECKS.same("row(" + row + ", 1)", text.row(row, 1), values[row - 1]);
        }
        for (int i = 0; i < 2; i++) {
            Use.read(text, "load 9 a;".repeat(5));
        }
        Use.read(text, EVERY_SORT);
        for (int row = 1; row <= 5; row++) {
            CHECKS.same("row(" + row + ", 1) behind loads", text.row(row, 1), 0);
        }
    }

    private static void rowRefusesOtherRowsAndWhats() {
        CHECKS.sentence("Promise 10", "IndexOutOfBoundsException: there is no such row, or what.");
        ConstraintText text = reading(EVERY_SORT);
        for (int row : new int[] {0, -1, 11, 40, 41, LEAST, MOST}) {
            CHECKS.refused("row(" + row + ", 0)", () -> text.row(row, 0));
            CHECKS.refused("row(" + row + ", 1)", () -> text.row(row, 1));
        }
        for (int what : new int[] {-1, 2, LEAST, MOST}) {
            CHECKS.refused("row(1, " + what + ")", () -> text.row(1, what));
            CHECKS.refused("row(10, " + what + ")", () -> text.row(10, what));
        }
    }

    private static void loadIsNoneIfThereIsNone() {
        CHECKS.sentence("Promise 11", "The load (what = 0) or slope (1) of a pin; NONE if there is none.");
        ConstraintText text = reading("load 0 a;slope 999999 b;");
        CHECKS.same("load of a", text.load(0, 0), 0);
        CHECKS.same("slope of a", text.load(0, 1), NONE);
        CHECKS.same("load of b", text.load(1, 0), NONE);
        CHECKS.same("slope of b", text.load(1, 1), 999999);
        CHECKS.same("load of a nameless pin", text.load(39, 0), NONE);
        CHECKS.same("slope of a nameless pin", text.load(39, 1), NONE);
        text.name(39, 'b');
        CHECKS.same("slope of the last pin", text.load(39, 1), 999999);
    }

    private static void loadRefusesOtherPinsAndWhats() {
        CHECKS.sentence("Promise 11", "IndexOutOfBoundsException.");
        ConstraintText text = reading("load 0 a;");
        for (int pin : new int[] {-1, 40, LEAST, MOST}) {
            CHECKS.refused("load(" + pin + ", 0)", () -> text.load(pin, 0));
            CHECKS.refused("load(" + pin + ", 1)", () -> text.load(pin, 1));
        }
        for (int what : new int[] {-1, 2, LEAST, MOST}) {
            CHECKS.refused("load(0, " + what + ")", () -> text.load(0, what));
        }
    }

    private static void unmatchedRowsFrom0On() {
        CHECKS.sentence("Promise 12", "The k-th row (from 0) with a pattern that matches no pin; NONE if there are not so "
                + "many.");
        ConstraintText text = reading("clock c 2 0 1 x;derive d c 1 1 a;apart c d;false x a b;false a x -;cycles 2 - b x;"
                + "false a - -;most 1 x x x;load 1 *;load 1 ??;slope 1 a;slope 1 x;");
        int[] due = {1, 4, 5, 6, 8, 10, 12};
        for (int k = 0; k < due.length; k++) {
            CHECKS.same("unmatched(" + k + ")", text.unmatched(k), due[k]);
        }
        CHECKS.same("unmatched(7)", text.unmatched(7), NONE);
        CHECKS.same("unmatched(MOST)", text.unmatched(MOST), NONE);
        ConstraintText all = new ConstraintText();
        Use.read(all, "load 1 *;".repeat(40));
        CHECKS.same("unmatched(0) of 40", all.unmatched(0), 1);
        CHECKS.same("unmatched(39) of 40", all.unmatched(39), 40);
        CHECKS.same("unmatched(40) of 40", all.unmatched(40), NONE);
        all.name(39, 'a');
        CHECKS.same("unmatched(0) of none", all.unmatched(0), NONE);
    }

    private static void unmatchedRefusesBelow0() {
        CHECKS.sentence("Promise 12", "IndexOutOfBoundsException: k is below 0.");
        for (ConstraintText text : new ConstraintText[] {new ConstraintText(), reading("load 1 x;")}) {
            CHECKS.refused("unmatched(-1)", () -> text.unmatched(-1));
            CHECKS.refused("unmatched(LEAST)", () -> text.unmatched(LEAST));
        }
    }

    private static void clashesByLesserThenGreaterRow() {
        CHECKS.sentence("Promise 13", "Of the k-th clash, by its lesser row, then by its greater one: which = 0 the lesser, "
                + "1 the greater row; NONE if there are not so many.");
        ConstraintText text = reading("slope 1 a;load 1 *;clock c 2 0 1 a;load 2 a;load 3 b;clock d 2 0 1 a;slope 2 a;"
                + "load 3 a;");
        int[] due = {1, 7, 2, 4, 2, 5, 2, 8, 3, 6, 4, 8};
        for (int k = 0; k < 6; k++) {
            CHECKS.same("clash(" + k + ", 0)", text.clash(k, 0), due[2 * k]);
            CHECKS.same("clash(" + k + ", 1)", text.clash(k, 1), due[2 * k + 1]);
        }
        for (int k : new int[] {6, 780, 65536, MOST}) {
            CHECKS.same("clash(" + k + ", 0)", text.clash(k, 0), NONE);
            CHECKS.same("clash(" + k + ", 1)", text.clash(k, 1), NONE);
        }
        StringBuilder rows = new StringBuilder();
        for (int i = 10; i < 50; i++) {
            rows.append("load ").append(i).append(" *;");
        }
        Use.read(text, rows.toString());
        CHECKS.same("clash(39, 0) of 780", text.clash(39, 0), 2);
        CHECKS.same("clash(39, 1) of 780", text.clash(39, 1), 3);
        CHECKS.same("clash(779, 0) of 780", text.clash(779, 0), 39);
        CHECKS.same("clash(779, 1) of 780", text.clash(779, 1), 40);
        CHECKS.same("clash(780, 0) of 780", text.clash(780, 0), NONE);
    }

    private static void clashRefusesOtherPlacesAndRows() {
        CHECKS.sentence("Promise 13", "IndexOutOfBoundsException: k is below 0, or which.");
        for (ConstraintText text : new ConstraintText[] {new ConstraintText(), reading("load 1 a;load 2 a;")}) {
            for (int k : new int[] {-1, LEAST}) {
                CHECKS.refused("clash(" + k + ", 0)", () -> text.clash(k, 0));
                CHECKS.refused("clash(" + k + ", 1)", () -> text.clash(k, 1));
            }
            for (int which : new int[] {-1, 2, LEAST, MOST}) {
                CHECKS.refused("clash(0, " + which + ")", () -> text.clash(0, which));
                CHECKS.refused("clash(1000, " + which + ")", () -> text.clash(1000, which));
            }
        }
    }

    private static void printsAs(String rows, String due) {
        ConstraintText text = new ConstraintText();
        Use.read(text, rows);
        CHECKS.same("'" + rows + "' printed", Use.printed(text), due);
        CHECKS.same("characters of '" + rows + "' printed", text.count(3), due.length());
    }

    private static void writePrintsNumbersWithout0sBeforeThem() {
        CHECKS.sentence("Promise 14", "numbers without 0s before them");
        printsAs("load 0 a;", "load 0 a;\n");
        printsAs("load 000000 a;slope 00 a;", "load 0 a;\nslope 0 a;\n");
        printsAs("load 000001 a;load 000010 a;load 010010 a;", "load 1 a;\nload 10 a;\nload 10010 a;\n");
        printsAs("load 100000 a;load 999999 a;", "load 100000 a;\nload 999999 a;\n");
        printsAs("clock c 000010 00 09 a;", "clock c 10 0 9 a;\n");
        printsAs("clock c 2 0 1 a;turned d c 001000 01 a;", "clock c 2 0 1 a;\nturned d c 1000 1 a;\n");
        printsAs("cycles 002 a - -;most 00 a - -;least 0100 a - -;", "cycles 2 a - -;\nmost 0 a - -;\nleast 100 a - -;\n");
        printsAs("load 01 007;false 00 0 -;", "load 1 007;\nfalse 00 0 -;\n");
    }

    private static void writePrintsOneBlankBetweenWords() {
        CHECKS.sentence("Promise 14", "with one blank between words, none before ; and behind each ; a 10");
        printsAs("", "");
        printsAs(" \n ", "");
        printsAs("\n load \n\n 1   a \n ; \n", "load 1 a;\n");
        printsAs("load 1 a;load 2 a  ;\nload 3 a\n;", "load 1 a;\nload 2 a;\nload 3 a;\n");
        String all = EVERY_SORT.replace(";", ";\n");
        printsAs(EVERY_SORT, all);
        printsAs(all.replace(" ", "\n ").replace(";", " \n;"), all);
        ConstraintText text = reading(all);
        CHECKS.same("what is printed can be read", text.count(0), 10);
        String full = "false aaaaaa aaaaaa aaaaaaaa;".repeat(40) + "\n".repeat(40);
        ConstraintText wide = new ConstraintText();
        Use.put(wide, full);
        CHECKS.same("a tape of 1200 characters", wide.count(2), 1200);
        CHECKS.same("of 40 rows", wide.read(), 40);
        CHECKS.same("printed", wide.count(3), 1200);
        CHECKS.same("the last character", wide.write(1199), 10);
        CHECKS.same("the last but one", wide.write(1198), ';');
    }

    private static void writeIsNoneBehindTheEnd() {
        CHECKS.sentence("Promise 14", "NONE: there are not so many.");
        ConstraintText text = reading("load 1 a;");
        CHECKS.same("write(0)", text.write(0), 'l');
        CHECKS.same("write(9)", text.write(9), 10);
        for (int i : new int[] {10, 11, 1199, 1200, 1239, 1240, 1241, 65536, MOST}) {
            CHECKS.same("write(" + i + ")", text.write(i), NONE);
        }
        // Rows with nothing between them print to more characters than the tape holds.
        String rows = "most 12 aaaaaaaa aaaaaaaa aaaa;".repeat(38) + "load 1 aaa;load 1 aa;";
        ConstraintText wide = new ConstraintText();
        CHECKS.same("1199 characters and a blank", Use.read(wide, rows + " "), 40);
        CHECKS.same("printed", wide.count(3), rows.length() + 40);
        CHECKS.same("the last character", wide.write(rows.length() + 39), 10);
        CHECKS.same("behind the last character", wide.write(rows.length() + 40), NONE);
        Use.read(wide, "");
        CHECKS.same("write(0) of no rows", wide.write(0), NONE);
    }

    private static void writeRefusesBelow0() {
        CHECKS.sentence("Promise 14", "IndexOutOfBoundsException: i is below 0.");
        for (ConstraintText text : new ConstraintText[] {new ConstraintText(), reading("load 1 a;")}) {
            CHECKS.refused("write(-1)", () -> text.write(-1));
            CHECKS.refused("write(LEAST)", () -> text.write(LEAST));
        }
    }

    private static void countTellsHowMany() {
        CHECKS.sentence("Promise 15", "How many: what = 0 rows, 1 clocks, 2 characters on the tape, 3 characters printed.");
        ConstraintText text = new ConstraintText();
        countsAre(text, 0, 0, 0, 0);
        Use.put(text, "clock c 02 0 1 a;load 1 a");
        countsAre(text, 0, 0, 25, 0);
        text.unit(';');
        text.read();
        countsAre(text, 2, 1, 0, 27);
        Use.put(text, "x");
        countsAre(text, 2, 1, 1, 27);
        text.read();
        countsAre(text, 2, 1, 0, 27);
        text.read();
        countsAre(text, 0, 0, 0, 0);
        ConstraintText full = new ConstraintText();
        Use.put(full, " ".repeat(1200));
        countsAre(full, 0, 0, 1200, 0);
    }

    private static void countsAre(ConstraintText text, int... due) {
        for (int what = 0; what < due.length; what++) {
            CHECKS.same("count(" + what + ")", text.count(what), due[what]);
        }
    }

    private static void countRefusesOtherWhats() {
        CHECKS.sentence("Promise 15", "IndexOutOfBoundsException.");
        ConstraintText text = reading("load 1 a;");
        for (int what : new int[] {-1, 4, LEAST, MOST}) {
            CHECKS.refused("count(" + what + ")", () -> text.count(what));
        }
    }

    private static void severalWrongArgumentsAreRefusedAlike() {
        CHECKS.sentence("Terms", "Methods throw what their comments name, the one named first when several would do.");
        CHECKS.sentence("Terms", "IndexOutOfBoundsException: there is no such pin, row, clock, place or what.");
        for (ConstraintText text : new ConstraintText[] {new ConstraintText(), reading(EVERY_SORT)}) {
            for (int bad : new int[] {-2, 5000, LEAST, MOST}) {
                CHECKS.refused("name", () -> text.name(bad, bad));
                CHECKS.refused("clock", () -> text.clock(bad, bad));
                CHECKS.refused("edge", () -> text.edge(bad, bad, bad));
                CHECKS.refused("distance", () -> text.distance(bad, bad, bad));
                CHECKS.refused("exception", () -> text.exception(bad, bad, bad));
                CHECKS.refused("row", () -> text.row(bad, bad));
                CHECKS.refused("load", () -> text.load(bad, bad));
                CHECKS.refused("clash", () -> text.clash(bad, bad));
                CHECKS.refused("count", () -> text.count(bad));
            }
        }
    }

    private static void aCallThatThrowsChangesNothing() {
        CHECKS.sentence("Terms", "A call that throws changes nothing.");
        ConstraintText text = reading(EVERY_SORT);
        ConstraintText untouched = reading(EVERY_SORT);
        Use.put(text, "load 7 a;");
        Use.put(untouched, "load 7 a;");
        for (int bad : new int[] {-2, 40, 1001, LEAST, MOST}) {
            CHECKS.refused("name", () -> text.name(bad, 'a'));
            CHECKS.refused("clock", () -> text.clock(bad, 0));
            CHECKS.refused("edge", () -> text.edge(0, bad == 40 ? 1001 : bad, 0));
            CHECKS.refused("distance", () -> text.distance(0, bad, 0));
            CHECKS.refused("exception", () -> text.exception(0, 0, bad));
            CHECKS.refused("row", () -> text.row(bad, 0));
            CHECKS.refused("load", () -> text.load(bad, 0));
            CHECKS.refused("unmatched", () -> text.unmatched(bad < 0 ? bad : -1));
            CHECKS.refused("clash", () -> text.clash(0, bad));
            CHECKS.refused("write", () -> text.write(bad < 0 ? bad : -1));
            CHECKS.refused("count", () -> text.count(bad));
        }
        CHECKS.same("what all is", state(text), state(untouched));
        CHECKS.same("the tape is read", text.read(), 1);
        CHECKS.same("the new load", text.load(0, 0), 7);
    }

    private static String state(ConstraintText text) {
        StringBuilder all = new StringBuilder(Use.printed(text));
        for (int what = 0; what < 4; what++) {
            all.append(text.count(what)).append(' ');
        }
        for (int pin = 0; pin < 40; pin++) {
            all.append(text.load(pin, 0)).append(' ').append(text.exception(pin, NONE, pin)).append(' ');
        }
        for (int clock = 0; clock < 3; clock++) {
            all.append(text.clock(clock, 0)).append('/').append(text.clock(clock, 3)).append(' ');
            all.append(text.clock(clock, 6)).append(' ').append(text.distance(clock, 0, 0)).append(' ');
        }
        return all.toString();
    }

    private static void anObjectIsGoodFor512Calls() {
        CHECKS.sentence("What it is", "An object is used for at most 512 calls after it has been made");
        ConstraintText text = new ConstraintText();
        text.name(0, 'a');
        text.units(0x6c6f6164);
        text.units(0x20372061);
        text.unit(';');
        text.read();
        for (int call = 6; call <= 512; call++) {
            CHECKS.same("load by call " + call, text.load(0, 0), 7);
        }
        ConstraintText reader = new ConstraintText();
        for (int call = 1; call <= 512; call++) {
            CHECKS.same("read by call " + call, reader.read(), 0);
        }
    }
}
