/** The boundary cases of the sentences on the text and its rows; each test is named after its sentence. */
public final class TextBoundaryTests {
    private static final int NONE = ConstraintText.NONE;
    private static final Checks CHECKS = new Checks();
    private static final Reads READS = new Reads(CHECKS);

    private TextBoundaryTests() {
    }

    public static void main(String[] args) {
        theTapeHasUpTo1200Characters();
        wordsAreAsLongAsCanBe();
        eachSemicolonIsAlone();
        wholesHave1To6Digits();
        clockNamesHave1To8SmallLetters();
        rowsAre0To40From1On();
        periodsAreAbove0();
        riseAndFallAreBelowThePeriodAndNotAlike();
        ratiosAreOf1To1000();
        turnedClocksRiseWhenTheOtherFalls();
        apartNamesTwoClocks();
        oneOfThreeIsAPatternAtLeast();
        cyclesAre2To100();
        mostAndLeastAreWholes();
        loadsAndSlopesAreWholes();
        aClockHasANewName();
        clocksAre12From0On();
        namedClocksMayComeLater();
        CHECKS.end("boundaries of the text");
    }

    private static void theTapeHasUpTo1200Characters() {
        CHECKS.sentence("Terms", "THE TAPE has up to 1200 characters (32 .. 126, and 10).");
        ConstraintText text = Use.withPins("a");
        String row = "load 7 a;";
        Use.put(text, " ".repeat(1199 - row.length()) + row);
        CHECKS.same("characters", text.count(2), 1199);
        CHECKS.yes("character 1200", text.unit('\n'));
        CHECKS.no("character 1201", text.unit('\n'));
        CHECKS.same("characters", text.count(2), 1200);
        CHECKS.same("rows", text.read(), 1);
        CHECKS.same("the row at the tape's end", text.load(0, 0), 7);
        ConstraintText open = new ConstraintText();
        Use.put(open, "x".repeat(1200));
        CHECKS.same("a word as long as the tape", open.read(), -1);
        ConstraintText cut = new ConstraintText();
        Use.put(cut, " ".repeat(1192) + "load 7 a");
        CHECKS.no("a ; without room", cut.unit(';'));
        CHECKS.same("the text ends with the tape", cut.read(), -1 - 1200);
        for (int u : new int[] {32, 126, 10}) {
            CHECKS.yes("character " + u, new ConstraintText().unit(u));
        }
        for (int u : new int[] {31, 127, 9, 11, 13, 0, -1, 32 + 128, 32 + 256, 10 + 65536, 32 | Integer.MIN_VALUE}) {
            CHECKS.no("character " + u, new ConstraintText().unit(u));
        }
    }

    private static void wordsAreAsLongAsCanBe() {
        CHECKS.sentence("Terms", "rows of other characters than blanks (32, 10) and ; as long as can be");
        READS.fine("load 1 a;slope 1 a;", 2);
        READS.fine("\n \n load\n1 \n a \n;\n \n", 1);
        READS.fine("clock\nc 2 0 1 x;apart c\nc;derive d c 1 1 x;", 3);
        READS.faultAtMark("clock c 2 0 1 x;clock\n#c 2 0 1 x;");
        READS.faultAtMark("#load1 a;");
        READS.faultAtMark("load #1a;");
        READS.faultAtMark("#loadload 1 a;");
        READS.faultAtMark("load #1,2 a;");
        READS.faultAtMark("load 1 #a!;");
        READS.faultAtMark("load 1 a #~;");
    }

    private static void eachSemicolonIsAlone() {
        CHECKS.sentence("Terms", "each ; is one alone");
        READS.fine("load 1 a;", 1);
        READS.fine("load 1 a ;", 1);
        READS.faultAtMark("#;");
        READS.faultAtMark("load 1 a;#;");
        READS.faultAtMark("load 1 a;#;load 1 a;");
        READS.faultAtMark("load #;1 a;");
        READS.faultAtMark("load 1#;a;");
        READS.faultAtMark("load 1 a;#;;");
    }

    private static void wholesHave1To6Digits() {
        CHECKS.sentence("Terms", "A WHOLE is a word of 1 to 6 digits");
        valueIs("load 0 a;", 0);
        valueIs("load 9 a;", 9);
        valueIs("load 000000 a;", 0);
        valueIs("load 000009 a;", 9);
        valueIs("load 999999 a;", 999999);
        valueIs("load 100000 a;", 100000);
        for (String bad : new String[] {"1000000", "0000001", "0000000", "9999999", "4294967297", "18446744073709551617",
            "-1", "+1", "1.", "1e", "a", "-", "*", "/", ":", "1_", "1/", "/1", "1:", ":1"}) {
            READS.faultAtMark("load #" + bad + " a;");
            READS.faultAtMark("most #" + bad + " a a a;");
            READS.faultAtMark("clock c #" + bad + " 0 1 a;");
        }
        READS.faultAtMark("load #;");
    }

    private static void valueIs(String row, int due) {
        ConstraintText text = new ConstraintText();
        CHECKS.same("read '" + row + "'", Use.read(text, row), 1);
        CHECKS.same("value of '" + row + "'", text.row(1, 1), due);
    }

    private static void clockNamesHave1To8SmallLetters() {
        CHECKS.sentence("Terms", "a CLOCK'S NAME one of 1 to 8 small letters");
        READS.fine("clock a 2 0 1 x;clock z 2 0 1 x;clock abcdefgh 2 0 1 x;apart abcdefgh z;derive b abcdefgh 1 1 x;", 5);
        for (String bad : new String[] {"abcdefghi", "A", "aZ", "a1", "0", "_", "a/", "*", "a?", "-", "`", "{"}) {
            READS.faultAtMark("clock #" + bad + " 2 0 1 x;");
            READS.faultAtMark("derive #" + bad + " a 1 1 x;");
            READS.faultAtMark("turned c #" + bad + " 1 1 x;");
            READS.faultAtMark("apart #" + bad + " a;");
            READS.faultAtMark("apart a #" + bad + ";");
        }
        READS.faultAtMark("clock #;");
        READS.faultAtMark("derive c #;");
        READS.faultAtMark("apart #;");
        READS.faultAtMark("apart a #;");
    }

    private static void rowsAre0To40From1On() {
        CHECKS.sentence("Terms", "The text are ROWS (0 at least, 40 at most, numbered from 1 on)");
        READS.fine("", 0);
        READS.fine(" ", 0);
        READS.fine("\n", 0);
        String row = "load 1 a;";
        READS.fine(row.repeat(39), 39);
        READS.fine(row.repeat(40), 40);
        READS.fine(row.repeat(40) + " \n ", 40);
        READS.faultAtMark(row.repeat(40) + "#" + row);
        ConstraintText text = new ConstraintText();
        Use.read(text, row.repeat(39) + "slope 2 a;");
        CHECKS.same("row 1", text.row(1, 0), 8);
        CHECKS.same("row 40", text.row(40, 0), 9);
        CHECKS.refused("row 0", () -> text.row(0, 0));
        CHECKS.refused("row 41", () -> text.row(41, 0));
    }

    private static void periodsAreAbove0() {
        CHECKS.sentence("Terms", "period P, above 0");
        READS.faultAtMark("clock c #0 0 0 x;");
        READS.faultAtMark("clock c #000000 0 1 x;");
        READS.fine("clock c 2 0 1 x;", 1);
        READS.fine("clock c 999999 0 1 x;", 1);
        READS.faultAtMark("clock c #1000000 0 1 x;");
        READS.faultAtMark("clock c 1 0 #0 x;");
    }

    private static void riseAndFallAreBelowThePeriodAndNotAlike() {
        CHECKS.sentence("Terms", "it rises at R and falls at F, both below P, not alike");
        READS.fine("clock c 2 0 1 x;clock d 2 1 0 x;", 2);
        READS.fine("clock c 999999 999998 999997 x;clock d 999999 0 999998 x;", 2);
        READS.faultAtMark("clock c 2 #2 1 x;");
        READS.faultAtMark("clock c 2 #3 1 x;");
        READS.faultAtMark("clock c 2 1 #2 x;");
        READS.faultAtMark("clock c 2 0 #3 x;");
        READS.faultAtMark("clock c 2 0 #0 x;");
        READS.faultAtMark("clock c 2 1 #01 x;");
        READS.faultAtMark("clock c 1 #1 0 x;");
        READS.faultAtMark("clock c 1 0 #1 x;");
        READS.faultAtMark("clock c 999999 #999999 0 x;");
        READS.faultAtMark("clock c 10 9 #10 x;");
    }

    private static void ratiosAreOf1To1000() {
        CHECKS.sentence("Terms", "all of clock D's times N / M; N and M are 1 .. 1000");
        for (String sort : new String[] {"derive", "turned"}) {
            for (String ratio : new String[] {"1 1", "1000 1", "1 1000", "1000 1000", "000001 001000"}) {
                READS.fine("clock d 2 0 1 x;" + sort + " c d " + ratio + " x;", 2);
            }
            for (String ratio : new String[] {"#0 1", "#1001 1", "1 #0", "1 #1001", "#0 0", "1000 #000000", "1 #-1",
                "#0001000 1", "#999999 1", "1 #a"}) {
                READS.faultAtMark("clock d 2 0 1 x;" + sort + " c d " + ratio + " x;");
            }
        }
        ConstraintText text = new ConstraintText();
        Use.read(text, "clock d 3 1 2 x;derive c d 1000 1 x;derive e d 1 1000 x;");
        timesAre(text, 1, 3000, 1000, 2000, 1);
        timesAre(text, 2, 3, 1, 2, 1000);
    }

    private static void timesAre(ConstraintText text, int clock, int... due) {
        for (int what = 0; what < due.length; what++) {
            CHECKS.same("clock(" + clock + ", " + what + ")", text.clock(clock, what), due[what]);
        }
    }

    private static void turnedClocksRiseWhenTheOtherFalls() {
        CHECKS.sentence("Terms", "likewise; it rises when D falls");
        ConstraintText text = new ConstraintText();
        Use.read(text, "clock d 10 0 9 x;turned c d 1 1 x;turned e c 1 2 x;derive f e 1 1 x;");
        timesAre(text, 1, 10, 9, 0, 1);
        timesAre(text, 2, 10, 0, 9, 2);
        timesAre(text, 3, 10, 0, 9, 2);
    }

    private static void apartNamesTwoClocks() {
        CHECKS.sentence("Terms", "clocks C and D have nothing to do with one another");
        READS.fine("clock c 2 0 1 x;clock d 2 0 1 x;apart c d;apart d c;apart c d;", 5);
        READS.fine("clock c 2 0 1 x;apart c c;", 2);
        READS.faultAtMark("clock c 2 0 1 x;apart #;");
        READS.faultAtMark("clock c 2 0 1 x;apart c #;");
        READS.faultAtMark("clock c 2 0 1 x;apart c c #c;");
    }

    private static void oneOfThreeIsAPatternAtLeast() {
        CHECKS.sentence("Terms", "each is a pattern, or - (any, also none); one at least is a pattern");
        for (String sort : new String[] {"false", "cycles 2", "most 0", "least 0"}) {
            READS.fine(sort + " a - -;" + sort + " - a -;" + sort + " - - a;" + sort + " a b c;", 4);
            READS.faultAtMark(sort + " - - #-;");
            READS.faultAtMark(sort + " - - #;");
            READS.faultAtMark(sort + " #;");
            READS.faultAtMark(sort + " a #;");
            READS.faultAtMark(sort + " a a a #a;");
            READS.faultAtMark(sort + " a - - #-;");
            READS.faultAtMark(sort + " #-- a a;");
            READS.faultAtMark(sort + " a #-a a;");
            READS.faultAtMark(sort + " a a #a-;");
        }
        READS.faultAtMark("load 1 #-;");
        READS.faultAtMark("slope 1 #-;");
        READS.faultAtMark("clock c 2 0 1 #-;");
        READS.faultAtMark("derive c d 1 1 #-;");
        ConstraintText text = Use.withPins("a");
        Use.read(text, "false a - -;most 1 - - a;");
        CHECKS.same("- with no pin", text.exception(0, NONE, NONE), 1);
        CHECKS.same("- with a pin", text.exception(0, 0, 0), 1);
        CHECKS.same("- with a nameless pin", text.exception(5, 5, 0), 2);
    }

    private static void cyclesAre2To100() {
        CHECKS.sentence("Terms", "likewise; K is 2 .. 100");
        valueIs("cycles 2 a - -;", 2);
        valueIs("cycles 100 a - -;", 100);
        valueIs("cycles 000002 a - -;", 2);
        valueIs("cycles 000100 a - -;", 100);
        for (String bad : new String[] {"1", "0", "101", "999999", "0000002", "a", "-"}) {
            READS.faultAtMark("cycles #" + bad + " a - -;");
        }
    }

    private static void mostAndLeastAreWholes() {
        CHECKS.sentence("Terms", "most V X Y Z ; least V X Y Z ; likewise; V is a whole");
        for (String sort : new String[] {"most", "least"}) {
            valueIs(sort + " 0 a - -;", 0);
            valueIs(sort + " 999999 a - -;", 999999);
            READS.faultAtMark(sort + " #1000000 a - -;");
            READS.faultAtMark(sort + " #-1 a - -;");
            READS.faultAtMark(sort + " #a - -;");
        }
    }

    private static void loadsAndSlopesAreWholes() {
        CHECKS.sentence("Terms", "load V X ; slope V X ; V is a whole");
        for (String sort : new String[] {"load", "slope"}) {
            valueIs(sort + " 0 a;", 0);
            valueIs(sort + " 999999 a;", 999999);
            READS.faultAtMark(sort + " #1000000 a;");
            READS.faultAtMark(sort + " #-1 a;");
            READS.faultAtMark(sort + " #a;");
            READS.faultAtMark(sort + " 1 a #a;");
        }
    }

    private static void aClockHasANewName() {
        CHECKS.sentence("Terms", "C of the first three is a name that no clock before has");
        for (String again : new String[] {"clock #a 2 0 1 x;", "derive #a b 1 1 x;", "turned #a b 1 1 x;"}) {
            READS.faultAtMark("clock a 2 0 1 x;clock b 2 0 1 x;" + again);
            READS.faultAtMark("clock b 2 0 1 x;derive a b 1 1 x;" + again);
            READS.faultAtMark("clock b 2 0 1 x;turned a b 1 1 x;" + again);
        }
        READS.fine("clock a 2 0 1 x;clock aa 2 0 1 x;clock ab 2 0 1 x;clock b 2 0 1 x;clock ba 2 0 1 x;", 5);
        READS.fine("clock abcdefgh 2 0 1 x;clock abcdefgg 2 0 1 x;clock abcdefg 2 0 1 x;clock bbcdefgh 2 0 1 x;", 4);
        ConstraintText text = new ConstraintText();
        CHECKS.same("first text", Use.read(text, "clock a 2 0 1 x;"), 1);
        CHECKS.same("the names of the text before are free", Use.read(text, "clock a 3 0 1 x;"), 1);
        CHECKS.same("the name in the text with a fault", Use.read(text, "clock b 3 0 1 x;;"), -17);
        CHECKS.same("is free, too", Use.read(text, "clock b 3 0 1 x;"), 1);
    }

    private static String clocks(int many) {
        StringBuilder rows = new StringBuilder();
        for (int i = 0; i < many; i++) {
            rows.append("clock ").append((char) ('a' + i)).append(" 99 ").append(i).append(" 50 x;");
        }
        return rows.toString();
    }

    private static void clocksAre12From0On() {
        CHECKS.sentence("Terms", "(12 clocks at most, from 0 on as they come)");
        ConstraintText text = new ConstraintText();
        CHECKS.same("12 clocks", Use.read(text, "load 1 x;" + clocks(12) + "load 1 x;"), 14);
        CHECKS.same("clocks", text.count(1), 12);
        for (int clock = 0; clock < 12; clock++) {
            CHECKS.same("rise of clock " + clock, text.clock(clock, 1), clock);
            CHECKS.same("row of clock " + clock, text.clock(clock, 4), clock + 2);
        }
        CHECKS.refused("clock 12", () -> text.clock(12, 0));
        READS.faultAtMark(clocks(12) + "clock #m 2 0 1 x;");
        READS.faultAtMark(clocks(12) + "derive #m a 1 1 x;");
        READS.faultAtMark(clocks(12) + "turned #m a 1 1 x;");
        READS.fine(clocks(11) + "turned l a 1 1 x;", 12);
    }

    private static void namedClocksMayComeLater() {
        CHECKS.sentence("Terms", "D, and both of apart, may be clocks that come later");
        ConstraintText text = new ConstraintText();
        String rows = "apart d c;derive c d 1 2 x;turned d e 1 3 x;clock e 6 1 2 x;";
        CHECKS.same("read '" + rows + "'", Use.read(text, rows), 4);
        CHECKS.same("the clock that c is derived from", text.clock(0, 5), 1);
        CHECKS.same("the clock that d is derived from", text.clock(1, 5), 2);
        timesAre(text, 1, 6, 2, 1, 3);
        timesAre(text, 0, 6, 2, 1, 6);
        CHECKS.same("c and d are apart", text.distance(0, 1, 0), 0);
        StringBuilder chain = new StringBuilder();
        for (char c = 'a'; c < 'l'; c++) {
            chain.append("turned ").append(c).append(' ').append((char) (c + 1)).append(" 1 2 x;");
        }
        ConstraintText last = new ConstraintText();
        CHECKS.same("each from the next one", Use.read(last, chain + "clock l 4096 2048 0 x;"), 12);
        timesAre(last, 0, 2, 0, 1, 1, 1, 1);
    }
}
