/** The boundary cases of the sentences on pins, their names and patterns; each test is named after its sentence. */
public final class PinBoundaryTests {
    private static final int NONE = ConstraintText.NONE;
    private static final int[] NO_PINS = {-1, 40, -2, 41, Integer.MIN_VALUE, Integer.MAX_VALUE};
    private static final Checks CHECKS = new Checks();
    private static final Reads READS = new Reads(CHECKS);

    private PinBoundaryTests() {
    }

    public static void main(String[] args) {
        pinsAre0To39();
        namesHaveUpTo16Characters();
        namesAreOfSmallLettersDigitsUnderlineAndSlash();
        namelessPinsMatchNothing();
        patternsHave1To16Characters();
        patternsAreOfTheseAndStarAndQuestionMark();
        starIsAnyRowAlsoOfNone();
        questionMarkIsAnyOne();
        theWholeNameMustBeRead();
        CHECKS.end("boundaries of pins");
    }

    private static void pinsAre0To39() {
        CHECKS.sentence("What it is", "PINS 0 ..");
        CHECKS.sentence("Terms", "39 have names");
        ConstraintText text = new ConstraintText();
        for (int pin = 0; pin < 40; pin++) {
            CHECKS.yes("name of pin " + pin, text.name(pin, 'a'));
        }
        for (int pin : NO_PINS) {
            CHECKS.refused("name of pin " + pin, () -> text.name(pin, 'a'));
        }
        Use.read(text, "load 3 a;clock c 2 0 1 a;");
        CHECKS.same("pins in all", text.clock(0, 6), 40);
        for (int pin = 0; pin < 40; pin++) {
            CHECKS.same("load of pin " + pin, text.load(pin, 0), 3);
        }
        CHECKS.yes("pin 0 goes on alone", text.name(0, 'b'));
        CHECKS.yes("pin 39 goes on alone", text.name(39, 'b'));
        CHECKS.same("pins that are left", text.clock(0, 6), 38);
        CHECKS.same("load of pin 1", text.load(1, 0), 3);
        CHECKS.same("load of pin 38", text.load(38, 0), 3);
    }

    private static void namesHaveUpTo16Characters() {
        CHECKS.sentence("Terms", "rows of up to 16 small letters, digits, _ and /");
        for (int pin : new int[] {0, 20, 39}) {
            ConstraintText text = new ConstraintText();
            for (int i = 0; i < 16; i++) {
                CHECKS.yes("character " + i + " of pin " + pin, text.name(pin, 'a' + i));
            }
            CHECKS.no("character 16 of pin " + pin, text.name(pin, 'q'));
            CHECKS.no("character 16 of pin " + pin + ", again", text.name(pin, 'q'));
            Use.read(text, "load 1 abcdefghijklmnop;slope 2 *q;clock c 2 0 1 *;");
            CHECKS.same("the 16 characters", text.load(pin, 0), 1);
            CHECKS.same("the 17th did not come", text.load(pin, 1), NONE);
            CHECKS.same("no other pin got it", text.clock(0, 6), 1);
        }
    }

    private static void namesAreOfSmallLettersDigitsUnderlineAndSlash() {
        CHECKS.sentence("Terms", "small letters, digits, _ and /;");
        for (int u : new int[] {'a', 'z', '0', '9', '_', '/'}) {
            CHECKS.yes("name " + u, new ConstraintText().name(0, u));
        }
        for (int u : new int[] {'a' - 1, 'z' + 1, '0' - 2, '9' + 1, '_' - 1, '_' + 1, '/' - 1, 'A', 'Z', '*', '?', '-',
            ';', ' ', 10, 0, -1, 'a' + 128, 'a' + 256, 'a' + 65536, 'a' - 256, 'a' | Integer.MIN_VALUE,
            Integer.MIN_VALUE, Integer.MAX_VALUE}) {
            ConstraintText text = new ConstraintText();
            CHECKS.no("name " + u, text.name(0, u));
            Use.read(text, "load 1 *;");
            CHECKS.same("the pin is nameless yet", text.load(0, 0), NONE);
        }
    }

    private static void namelessPinsMatchNothing() {
        CHECKS.sentence("Terms", "one without a letter yet is NAMELESS, and matches nothing");
        ConstraintText text = Use.withPins("", "a");
        Use.read(text, "load 1 *;slope 2 **;false * - -;cycles 2 - * -;most 1 - - *;clock c 2 0 1 *;");
        CHECKS.same("load", text.load(0, 0), NONE);
        CHECKS.same("slope", text.load(0, 1), NONE);
        CHECKS.same("exception", text.exception(0, 0, 0), 0);
        CHECKS.same("pins of the clock", text.clock(0, 6), 1);
        for (char c : new char[] {'b', '0', '_', '/'}) {
            ConstraintText named = Use.withPins("", "a");
            Use.read(named, "load 1 *;clock c 2 0 1 *;");
            Use.grow(named, 0, String.valueOf(c));
            CHECKS.same("load of a pin named " + c, named.load(0, 0), 1);
            CHECKS.same("pins with one named " + c, named.clock(0, 6), 2);
        }
    }

    private static void patternsHave1To16Characters() {
        CHECKS.sentence("Terms", "A PATTERN is a row of 1 to 16");
        READS.fine("load 1 a;slope 1 *;clock c 2 0 1 ?;", 3);
        READS.fine("load 1 abcdefghijklmnop;slope 1 ****************;clock c 2 0 1 ????????????????;", 3);
        READS.fine("false abcdefghijklmnop abcdefghijklmnop abcdefghijklmnop;", 1);
        READS.faultAtMark("load 1 #;");
        READS.faultAtMark("load 1 #abcdefghijklmnopq;");
        READS.faultAtMark("slope 1 #*****************;");
        READS.faultAtMark("clock c 2 0 1 #?????????????????;");
        READS.faultAtMark("derive c d 1 1 #aaaaaaaaaaaaaaaaa;");
        READS.faultAtMark("false #aaaaaaaaaaaaaaaaa - -;");
        READS.faultAtMark("false - #aaaaaaaaaaaaaaaaa -;");
        READS.faultAtMark("false - - #aaaaaaaaaaaaaaaaa;");
        matches("????????????????", "abcdefghijklmnop", true);
        matches("abcdefghijklmnop", "abcdefghijklmnop", true);
        matches("abcdefghijklmno*", "abcdefghijklmnop", true);
        matches("abcdefghijklmnop", "abcdefghijklmnoq", false);
    }

    private static void patternsAreOfTheseAndStarAndQuestionMark() {
        CHECKS.sentence("Terms", "of these and of *");
        READS.fine("load 1 az09_/*?;", 1);
        for (String bad : new String[] {"`", "{", ":", ".", "^", "A", "Z", "@", "+", "-", ">", ",", "[", "~", "!"}) {
            READS.faultAtMark("load 1 #" + bad + ";");
            READS.faultAtMark("load 1 #a" + bad + ";");
            READS.faultAtMark("load 1 #" + bad + "a;");
        }
    }

    private static void matches(String pattern, String name, boolean due) {
        ConstraintText text = Use.withPins(name);
        Use.read(text, "load 1 " + pattern + ";");
        CHECKS.same("load of " + name + " by " + pattern, text.load(0, 0), due ? 1 : NONE);
    }

    private static void starIsAnyRowAlsoOfNone() {
        CHECKS.sentence("Terms", "(any row, also of none)");
        matches("*", "a", true);
        matches("*", "abcdefghijklmnop", true);
        matches("a*", "a", true);
        matches("*a", "a", true);
        matches("*a*", "a", true);
        matches("**a**", "a", true);
        matches("a*b", "ab", true);
        matches("a**b", "ab", true);
        matches("a*b", "a_/09zb", true);
        matches("*ab*ab*", "abab", true);
        matches("*ab*ab*", "abb", false);
        matches("a*ab", "ab", false);
        matches("*a*a*a*a*a*a*a*b", "aaaaaaaaaaaaaaaa", false);
        matches("*a*a*a*a*a*a*a*b", "aaaaaaaaaaaaaaab", true);
    }

    private static void questionMarkIsAnyOne() {
        CHECKS.sentence("Terms", "? (any one of them)");
        for (String one : new String[] {"a", "z", "0", "9", "_", "/"}) {
            matches("?", one, true);
            matches("x?y", "x" + one + "y", true);
        }
        matches("?", "ab", false);
        matches("??", "a", false);
        matches("a?", "a", false);
        matches("?a", "a", false);
        matches("a?b", "ab", false);
        matches("???????????????", "abcdefghijklmnop", false);
        matches("????????????????", "abcdefghijklmno", false);
    }

    private static void theWholeNameMustBeRead() {
        CHECKS.sentence("Terms", "it MATCHES a pin if its whole name can be read so");
        matches("ab", "ab", true);
        matches("ab", "abc", false);
        matches("bc", "abc", false);
        matches("b", "abc", false);
        matches("abc", "ab", false);
        matches("a*", "ba", false);
        matches("*b", "ba", false);
        matches("*?", "a", true);
        matches("a*c", "abcd", false);
        matches("abcdefghijklmno", "abcdefghijklmnop", false);
        matches("abcdefghijklmnop", "abcdefghijklmno", false);
    }
}
