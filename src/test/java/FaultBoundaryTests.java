/** The boundary cases of the sentences on the fault of a text; each test is named after its sentence. */
public final class FaultBoundaryTests {
    private static final Checks CHECKS = new Checks();
    private static final Reads READS = new Reads(CHECKS);

    private FaultBoundaryTests() {
    }

    public static void main(String[] args) {
        faultIsTheFirstCharactersPlaceFrom0();
        firstWordThatCannotStand();
        clockThatIsThereAlready();
        thirteenthClock();
        fortyFirstRow();
        wordThatIsTooLong();
        textThatEndsTooSoon();
        firstNameThatIsNoClock();
        firstClockInARing();
        numbersAbove1000000();
        leastCommonLowerNumber();
        derivedFromAGreatOne();
        CHECKS.end("boundaries of the fault");
    }

    private static void faultIsTheFirstCharactersPlaceFrom0() {
        CHECKS.sentence("Terms", "THE FAULT is the place of the first character, from 0, of a word");
        READS.fault("x", 0);
        READS.fault(" x", 1);
        READS.fault("\nx", 1);
        READS.fault("load 1 aB", 7);
        READS.fault(" ".repeat(1199) + "x", 1199);
        READS.fault(" ".repeat(1196) + "load", 1200);
    }

    private static void firstWordThatCannotStand() {
        CHECKS.sentence("Terms", "of the first word that cannot stand where it stands");
        for (String bad : new String[] {"#cloc c 2 0 1 x;", "#clocks c 2 0 1 x;", "#Load 1 x;", "#x;", "#1;", "#-;",
            "#false- a - -;", "load #load 1 x;", "load 1 x #load 1 x;"}) {
            READS.faultAtMark(bad);
            READS.faultAtMark("slope 1 x; " + bad);
        }
        READS.faultAtMark("load #x -; load x");
        READS.faultAtMark("clock #1 0 9 9 -;");
        READS.faultAtMark("clock c #0 9 9 -;");
        READS.faultAtMark("clock c 2 #2 2 -;");
        READS.faultAtMark("clock c 2 1 #1 -;");
        READS.faultAtMark("clock c 2 1 0 #- -");
        READS.faultAtMark("load 1 x; load #-1 -; false - - -;");
    }

    private static void clockThatIsThereAlready() {
        CHECKS.sentence("Terms", "also a C that is there already");
        READS.faultAtMark("clock c 2 0 1 x;clock #c 0 0 1 x;");
        READS.faultAtMark("clock c 2 0 1 x;derive #c c 1 1 x;");
        READS.faultAtMark("derive c d 1 1 x;turned #c d 0 1 x;");
        READS.faultAtMark("clock c 2 0 1 x;clock #c");
        READS.faultAtMark("derive c d 1 1 x;clock d 2 0 1 x;clock #d 2 0 1 x;");
        READS.faultAtMark("clock c #0 0 1 x;clock c 2 0 1 x;");
    }

    private static String clocks(int many) {
        StringBuilder rows = new StringBuilder();
        for (int i = 0; i < many; i++) {
            rows.append("clock ").append((char) ('a' + i)).append(" 9 0 1 x;");
        }
        return rows.toString();
    }

    private static void thirteenthClock() {
        CHECKS.sentence("Terms", "or that of a 13th clock");
        READS.fine(clocks(12) + "load 1 x;", 13);
        READS.faultAtMark(clocks(12) + "load 1 x;clock #m 9 0 1 x;");
        READS.faultAtMark(clocks(12) + "derive #m a 0 1 x;");
        READS.faultAtMark(clocks(12) + "turned #m zz 1 1 x;");
        READS.faultAtMark(clocks(12) + "clock #");
        READS.faultAtMark(clocks(12) + "clock #;");
        READS.faultAtMark(clocks(12) + "apart a b;apart a #m;");
    }

    private static void fortyFirstRow() {
        CHECKS.sentence("Terms", "the first word of a 41st row");
        String forty = "load 1 a;".repeat(40);
        READS.faultAtMark(forty + "#load 1 a;");
        READS.faultAtMark(forty + " \n #load -");
        READS.faultAtMark(forty + "#;");
        READS.faultAtMark(forty + "#x");
        READS.faultAtMark("load 1 a;".repeat(39) + "load #- a;load 1 a;");
        READS.faultAtMark("derive c d 1 1 a;" + "load 1 a;".repeat(39) + "#clock d 2 0 1 a;");
        READS.fine(forty + " ".repeat(1200 - forty.length()), 40);
    }

    private static void wordThatIsTooLong() {
        CHECKS.sentence("Terms", "a word that is too long");
        READS.faultAtMark("clock #abcdefghi 2 0 1 x;");
        READS.faultAtMark("derive c #abcdefghi 1 1 x;");
        READS.faultAtMark("apart c #abcdefghi;");
        READS.faultAtMark("clock c #0000002 0 1 x;");
        READS.faultAtMark("clock c 2 #0000000 1 x;");
        READS.faultAtMark("clock c 2 0 #0000001 x;");
        READS.faultAtMark("derive c d #0000001 1 x;");
        READS.faultAtMark("derive c d 1 #0000001 x;");
        READS.faultAtMark("cycles #0000002 x x x;");
        READS.faultAtMark("most #0000002 x x x;");
        READS.faultAtMark("load #0000002 x;");
        READS.faultAtMark("load 1 #aaaaaaaaaaaaaaaaa;");
        READS.faultAtMark("load 1 #" + "a".repeat(1193));
        READS.faultAtMark("#" + "load".repeat(300));
    }

    private static void textThatEndsTooSoon() {
        CHECKS.sentence("Terms", "if the text ends too soon, the text's length");
        for (String row : new String[] {"clock c 2 0 1 x;", "derive d c 1 1 x;", "turned e c 1 1 x;", "apart c c;",
            "false x x x;", "cycles 2 x x x;", "most 1 x x x;", "least 1 x x x;", "load 1 x;", "slope 1 x;"}) {
            String before = "clock c 2 0 1 x;".equals(row) ? "" : "clock c 2 0 1 x;";
            for (int end = row.indexOf(' '); end < row.length(); end++) {
                if (row.charAt(end) == ' ' || row.charAt(end) == ';') {
                    READS.faultAtMark(before + row.substring(0, end) + "#");
                    READS.faultAtMark(before + row.substring(0, end) + "\n  #");
                }
            }
            READS.fine(before + row, before.isEmpty() ? 1 : 2);
        }
        READS.faultAtMark("derive c d 1 1 x#");
        READS.faultAtMark("derive c c 1 1 x#");
    }

    private static void firstNameThatIsNoClock() {
        CHECKS.sentence("Terms", "If there is none such: of the first D (or name of apart) that is no clock");
        READS.faultAtMark("derive c #d 1 1 x;");
        READS.faultAtMark("turned c #d 1 1 x;");
        READS.faultAtMark("apart #c d;");
        READS.faultAtMark("clock c 2 0 1 x;apart c #d;");
        READS.faultAtMark("clock d 2 0 1 x;apart #c d;");
        READS.faultAtMark("apart #d c;derive c e 1 1 x;");
        READS.faultAtMark("derive c #e 1 1 x;apart d c;");
        READS.faultAtMark("derive c d 1 1 x;apart e e;load #x x;");
        READS.faultAtMark("derive c d 1 1 x;slope 1 x#");
        READS.faultAtMark("derive c c 1 1 x;derive d #e 1 1 x;");
        READS.faultAtMark("clock a 1001 0 1 x;derive b a 1000 1 x;apart a #c;");
        READS.faultAtMark("clock ab 2 0 1 x;apart ab #a;");
        READS.faultAtMark("clock ab 2 0 1 x;apart ab #abc;");
        READS.faultAtMark("clock ab 2 0 1 x;apart ab #bb;");
        READS.fine("apart c d;derive c d 1 1 x;clock d 2 0 1 x;", 3);
    }

    private static void firstClockInARing() {
        CHECKS.sentence("Terms", "if there is none: of the first C (of derive, turned) that is in a RING of clocks, "
                + "each derived from the next one");
        READS.faultAtMark("derive #c c 1 1 x;");
        READS.faultAtMark("turned #c c 1 1 x;");
        READS.faultAtMark("derive #c d 1 1 x;turned d c 1 1 x;");
        READS.faultAtMark("derive b c 1 1 x;derive #c d 1 1 x;derive d c 1 1 x;");
        READS.faultAtMark("derive b c 1 1 x;derive #c c 1 1 x;");
        READS.faultAtMark("derive b f 1 1 x;derive #d e 1 1 x;derive e d 1 1 x;derive f g 1 1 x;derive g f 1 1 x;");
        READS.faultAtMark("clock a 999999 0 1 x;derive b a 1000 1 x;derive #c c 1 1 x;");
        READS.faultAtMark(ring("#"));
        READS.fine(ring("").replace("derive l a 1 1 x;", "clock l 9 0 1 x;"), 12);
    }

    /** Twelve clocks, each derived from the next one, the last one from the first. */
    private static String ring(String mark) {
        StringBuilder rows = new StringBuilder();
        for (char c = 'a'; c <= 'l'; c++) {
            rows.append("derive ").append(c == 'a' ? mark : "").append(c).append(' ');
            rows.append(c == 'l' ? 'a' : (char) (c + 1)).append(" 1 1 x;");
        }
        return rows.toString();
    }

    private static void numbersAbove1000000() {
        CHECKS.sentence("Terms", "with an upper or lower number above 1000000");
        READS.fine("clock a 1000 0 1 x;derive b a 1000 1 x;", 2);
        READS.fine("clock a 999999 0 1 x;derive b a 1 1 x;", 2);
        READS.faultAtMark("clock a 9901 0 1 x;derive #b a 101 1 x;");
        READS.faultAtMark("clock a 1001 0 1 x;derive #b a 1000 1 x;");
        READS.faultAtMark("clock a 999999 0 1 x;turned #b a 1000 1 x;");
        READS.fine("clock a 3 1 2 x;derive b a 1 1000 x;derive c b 1 1000 x;", 3);
        READS.faultAtMark("clock a 3 1 2 x;derive b a 1 53 x;derive c b 1 53 x;derive #d c 1 356 x;");
        READS.faultAtMark("clock a 3 1 2 x;derive b a 1 101 x;derive #c d 1 11 x;derive d b 1 901 x;");
        READS.faultAtMark("clock a 3 1 2 x;derive b a 1 997 x;turned c b 1 1000 x;turned #d c 1 2 x;");
        READS.fine("clock a 3 1 2 x;derive b a 1 997 x;turned c b 1 1000 x;", 3);
        READS.faultAtMark("clock a 3 1 2 x;derive b a 1 1000 x;derive c b 1 1000 x;derive #d c 1 1000 x;");
    }

    private static void leastCommonLowerNumber() {
        CHECKS.sentence("Terms", "GREAT: that has its period, rise and fall, as fractions with the least common lower "
                + "number");
        READS.fine("clock a 999000 999 1998 x;derive b a 1000 999 x;", 2);
        READS.faultAtMark("clock a 999000 0 1 x;derive #b a 1000 999 x;");
        READS.faultAtMark("clock a 999000 1 0 x;derive #b a 1000 999 x;");
        READS.fine("clock a 999999 0 1 x;derive b a 1000 1000 x;derive c b 777 777 x;", 3);
        READS.fine("clock a 6 0 3 x;derive b a 1 1000 x;derive c b 1 1000 x;derive d c 1 3 x;", 4);
        READS.faultAtMark("clock a 6 0 2 x;derive b a 1 1000 x;derive c b 1 1000 x;derive #d c 1 3 x;");
        READS.faultAtMark("clock a 7 0 3 x;derive b a 1 1000 x;derive c b 1 1000 x;derive #d c 1 3 x;");
    }

    private static void derivedFromAGreatOne() {
        CHECKS.sentence("Terms", "or is derived from a GREAT one");
        READS.faultAtMark("derive #c b 1 1000 x;derive b a 1000 1 x;clock a 1001 0 1 x;");
        READS.faultAtMark("derive #d c 1 1 x;turned c b 1 1000 x;derive b a 1000 1 x;clock a 1001 0 1 x;");
        READS.faultAtMark("clock a 1001 0 1 x;derive e a 1 1 x;derive #c b 1 1000 x;derive b a 1000 1 x;");
        READS.fine("clock a 1001 0 1 x;derive c b 1000 1 x;derive b a 1 1000 x;", 3);
        READS.faultAtMark(ring("#").replace("1 1 x;", "1000 1 x;").replace("derive l a 1000 1 x;", "clock l 9 0 1 x;"));
        READS.faultAtMark(ring("#").replace("1 1 x;", "1 1000 x;").replace("derive l a 1 1000 x;", "clock l 9 0 1 x;"));
    }
}
