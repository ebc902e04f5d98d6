/** The boundary cases of the sentences on what a text means; each test is named after its sentence. */
public final class MeaningBoundaryTests {
    private static final int NONE = ConstraintText.NONE;
    private static final Checks CHECKS = new Checks();

    private MeaningBoundaryTests() {
    }

    public static void main(String[] args) {
        edgesAreRiseAndFallAndPeriodsLater();
        distanceIsTheLeastTimeAbove0();
        clocksGoOnForEver();
        eachPatternMatchesItsPin();
        falseBeforeMostAndLeastBeforeCycles();
        theHeavierOneWins();
        theLaterOneWins();
        theLatestLoadThatMatches();
        clashesOfClocks();
        clashesOfLoadsAndSlopes();
        CHECKS.end("boundaries of the meaning");
    }

    private static ConstraintText reading(String rows) {
        ConstraintText text = Use.withPins("a", "b", "c");
        Use.read(text, rows);
        return text;
    }

    private static void edgeIs(ConstraintText text, int k, long upper, long lower, long rises) {
        CHECKS.same("edge " + k + "'s upper number", text.edge(0, k, 0), upper);
        CHECKS.same("edge " + k + "'s lower number", text.edge(0, k, 1), lower);
        CHECKS.same("whether edge " + k + " rises", text.edge(0, k, 2), rises);
    }

    private static void edgesAreRiseAndFallAndPeriodsLater() {
        CHECKS.sentence("Terms", "its rise and its fall, and each of them any number of periods later");
        ConstraintText riseFirst = reading("clock c 10 0 9 a;");
        edgeIs(riseFirst, 0, 0, 1, 1);
        edgeIs(riseFirst, 1, 9, 1, 0);
        edgeIs(riseFirst, 2, 10, 1, 1);
        edgeIs(riseFirst, 3, 19, 1, 0);
        edgeIs(riseFirst, 1000, 5000, 1, 1);
        ConstraintText fallFirst = reading("clock c 10 9 0 a;");
        edgeIs(fallFirst, 0, 0, 1, 0);
        edgeIs(fallFirst, 1, 9, 1, 1);
        edgeIs(fallFirst, 2, 10, 1, 0);
        edgeIs(fallFirst, 999, 4999, 1, 1);
        ConstraintText late = reading("clock c 999999 999998 999997 a;");
        edgeIs(late, 0, 999997, 1, 0);
        edgeIs(late, 1, 999998, 1, 1);
        edgeIs(late, 1000, 500L * 999999 + 999997, 1, 0);
    }

    private static void distanceIs(ConstraintText text, int a, int b, long upper, long lower) {
        CHECKS.same("distance(" + a + ", " + b + ", 0)", text.distance(a, b, 0), upper);
        CHECKS.same("distance(" + a + ", " + b + ", 1)", text.distance(a, b, 1), lower);
    }

    private static void distanceIsTheLeastTimeAbove0() {
        CHECKS.sentence("Terms", "is the least time above 0 from a rise of A to a rise of B");
        ConstraintText text = reading("clock c 10 3 0 a;clock d 10 3 9 a;clock e 10 4 0 a;clock f 4 3 0 a;"
                + "clock g 7 3 0 a;derive h c 1 3 a;");
        distanceIs(text, 0, 0, 10, 1);
        distanceIs(text, 0, 1, 10, 1);
        distanceIs(text, 0, 2, 1, 1);
        distanceIs(text, 2, 0, 9, 1);
        distanceIs(text, 0, 3, 2, 1);
        distanceIs(text, 0, 4, 1, 1);
        distanceIs(text, 4, 3, 1, 1);
        distanceIs(text, 5, 5, 10, 3);
        distanceIs(text, 0, 5, 4, 3);
        distanceIs(text, 5, 0, 2, 1);
        ConstraintText falls = reading("clock c 10 3 0 a;turned d c 1 1 a;");
        distanceIs(falls, 0, 1, 7, 1);
        distanceIs(falls, 1, 0, 3, 1);
        // Both periods are 997 over their lower numbers, so that times go by 997 / (1000000 * 974153).
        ConstraintText fine = reading("clock c 997 1 2 a;derive d c 1 1000 a;derive e d 1 1000 a;derive f c 1 991 a;"
                + "derive g f 1 983 a;");
        distanceIs(fine, 2, 4, 922 / 2, 974153000000L / 2);
        distanceIs(fine, 4, 2, 75 / 25, 974153000000L / 25);
    }

    private static void clocksGoOnForEver() {
        CHECKS.sentence("Terms", "as they go on for ever (before 0, too)");
        ConstraintText text = reading("clock c 999983 0 1 a;clock d 999979 999978 1 a;clock e 999983 999982 0 a;");
        distanceIs(text, 0, 1, 1, 1);
        distanceIs(text, 1, 0, 1, 1);
        distanceIs(text, 2, 0, 1, 1);
        distanceIs(text, 0, 2, 999982, 1);
        ConstraintText even = reading("clock c 6 5 0 a;clock d 4 0 1 a;clock e 4 1 0 a;");
        distanceIs(even, 0, 1, 1, 1);
        distanceIs(even, 1, 0, 1, 1);
        distanceIs(even, 0, 2, 2, 1);
        distanceIs(even, 2, 0, 2, 1);
    }

    private static void winnerIs(String rows, int from, int through, int to, int due) {
        CHECKS.same("exception(" + from + ", " + through + ", " + to + ") of '" + rows + "'",
                reading(rows).exception(from, through, to), due);
    }

    private static void eachPatternMatchesItsPin() {
        CHECKS.sentence("Terms", "if each of its patterns (but -) matches that pin");
        winnerIs("false a b c;", 0, 1, 2, 1);
        winnerIs("false a b c;", 1, 1, 2, 0);
        winnerIs("false a b c;", 0, 0, 2, 0);
        winnerIs("false a b c;", 0, 1, 0, 0);
        winnerIs("false a b c;", NONE, 1, 2, 0);
        winnerIs("false a b c;", 0, NONE, 2, 0);
        winnerIs("false a b c;", 0, 1, NONE, 0);
        winnerIs("false * * *;", 0, 1, 39, 0);
        winnerIs("false a - -;", 0, NONE, NONE, 1);
        winnerIs("false - b -;", NONE, 1, NONE, 1);
        winnerIs("false - - c;", NONE, NONE, 2, 1);
        winnerIs("false - - c;", 39, 39, 2, 1);
        winnerIs("false - - *;", NONE, NONE, NONE, 0);
        winnerIs("load 1 a;slope 1 a;clock c 2 0 1 a;apart c c;", 0, 0, 0, 0);
        winnerIs("", 0, 0, 0, 0);
    }

    private static void falseBeforeMostAndLeastBeforeCycles() {
        CHECKS.sentence("Terms", "false before most and least, these before cycles");
        for (String middle : new String[] {"most 5 ", "least 5 "}) {
            winnerIs("false - b -;" + middle + "a b c;", 0, 1, 2, 1);
            winnerIs(middle + "a b c;false - b -;", 0, 1, 2, 2);
            winnerIs(middle + "- b -;cycles 2 a b c;", 0, 1, 2, 1);
            winnerIs("cycles 2 a b c;" + middle + "- b -;", 0, 1, 2, 2);
        }
        winnerIs("false - b -;cycles 2 a b c;", 0, 1, 2, 1);
        winnerIs("cycles 2 a b c;false - b -;", 0, 1, 2, 2);
        winnerIs("most 1 a - -;least 1 - b c;", 0, 1, 2, 1);
        winnerIs("least 1 a - -;most 1 - b c;", 0, 1, 2, 1);
        winnerIs("most 1 - b c;least 1 a - -;", 0, 1, 2, 2);
    }

    private static void theHeavierOneWins() {
        CHECKS.sentence("Terms", "4 for a pattern from, 2 for one to, 1 for one through, together");
        String[] byWeight = {"- b -;", "- - c;", "- b c;", "a - -;", "a b -;", "a - c;", "a b c;"};
        for (String sort : new String[] {"false ", "most 1 ", "least 1 ", "cycles 2 "}) {
            for (int heavier = 1; heavier < byWeight.length; heavier++) {
                winnerIs(sort + byWeight[heavier] + sort + byWeight[heavier - 1], 0, 1, 2, 1);
                winnerIs(sort + byWeight[heavier - 1] + sort + byWeight[heavier], 0, 1, 2, 2);
            }
        }
        winnerIs("cycles 2 a - -;cycles 2 - * *;", 0, 1, 2, 1);
        winnerIs("cycles 100 * - -;cycles 2 - - c;", 0, 1, 2, 1);
    }

    private static void theLaterOneWins() {
        CHECKS.sentence("Terms", "of these the later one");
        for (String sort : new String[] {"false ", "most 1 ", "least 1 ", "cycles 2 "}) {
            winnerIs(sort + "a - -;" + sort + "* - -;", 0, 1, 2, 2);
            winnerIs(sort + "a - -;" + sort + "a - -;" + sort + "b - -;", 0, 1, 2, 2);
        }
        winnerIs("most 9 a - -;least 1 a - -;", 0, 1, 2, 2);
        winnerIs("least 9 a - -;most 1 a - -;", 0, 1, 2, 2);
        winnerIs("cycles 2 a - -;".repeat(40), 0, NONE, NONE, 40);
        winnerIs("false a - -;" + "cycles 2 a b c;".repeat(39), 0, 1, 2, 1);
    }

    private static void theLatestLoadThatMatches() {
        CHECKS.sentence("Terms", "THE LOAD (slope) of a pin is that of the latest such row that matches it");
        ConstraintText text = reading("load 9 a;slope 8 a;load 0 a;slope 7 b;load 6 b;slope 0 a;load 5 zz;");
        CHECKS.same("load of a", text.load(0, 0), 0);
        CHECKS.same("slope of a", text.load(0, 1), 0);
        CHECKS.same("load of b", text.load(1, 0), 6);
        CHECKS.same("slope of b", text.load(1, 1), 7);
        CHECKS.same("load of c", text.load(2, 0), NONE);
        ConstraintText many = reading("load 1 *;".repeat(39) + "load 999999 *;");
        CHECKS.same("load by row 40", many.load(0, 0), 999999);
        ConstraintText first = reading("load 3 a;" + "load 1 b;".repeat(39));
        CHECKS.same("load by row 1", first.load(0, 0), 3);
        CHECKS.same("no slope by a load", first.load(0, 1), NONE);
    }

    private static void clashesAre(String rows, int... due) {
        ConstraintText text = reading(rows);
        for (int k = 0; k < due.length / 2; k++) {
            CHECKS.same("clash(" + k + ", 0) of '" + rows + "'", text.clash(k, 0), due[2 * k]);
            CHECKS.same("clash(" + k + ", 1) of '" + rows + "'", text.clash(k, 1), due[2 * k + 1]);
        }
        CHECKS.same("the end of the clashes of '" + rows + "'", text.clash(due.length / 2, 0), NONE);
    }

    private static void clashesOfClocks() {
        CHECKS.sentence("Terms", "Two rows CLASH if both make a clock");
        clashesAre("clock c 2 0 1 a;clock d 2 0 1 a;", 1, 2);
        clashesAre("clock c 2 0 1 a;derive d c 1 1 *;", 1, 2);
        clashesAre("derive d c 1 1 ?;turned e c 1 1 b;clock c 2 0 1 a;", 1, 2, 1, 3);
        clashesAre("clock c 2 0 1 a;clock d 2 0 1 b;");
        clashesAre("clock c 2 0 1 zz;clock d 2 0 1 zz;");
        clashesAre("clock c 2 0 1 a;load 1 a;slope 2 a;false a - -;apart c c;");
    }

    private static void clashesOfLoadsAndSlopes() {
        CHECKS.sentence("Terms", "or both are loads (or slopes) of different V, and some pin matches both");
        for (String sort : new String[] {"load ", "slope "}) {
            clashesAre(sort + "1 a;" + sort + "2 a;", 1, 2);
            clashesAre(sort + "0 *;" + sort + "999999 c;", 1, 2);
            clashesAre(sort + "1 a;" + sort + "1 a;");
            clashesAre(sort + "1 a;" + sort + "000001 a;");
            clashesAre(sort + "1 a;" + sort + "2 b;");
            clashesAre(sort + "1 zz;" + sort + "2 zz;");
            clashesAre(sort + "1 a;" + sort + "2 *;" + sort + "1 b;", 1, 2, 2, 3);
        }
        clashesAre("load 1 a;slope 2 a;");
        clashesAre("most 1 a - -;most 2 a - -;least 1 a - -;least 2 a - -;cycles 2 a - -;cycles 3 a - -;");
    }
}
