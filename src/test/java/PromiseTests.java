import java.lang.reflect.Constructor;
import java.lang.reflect.Method;
import java.lang.reflect.Modifier;
import java.util.Arrays;
import java.util.TreeSet;

/** Each promise of the document: ordinary inputs, the edges that it names, wrong inputs. */
public final class PromiseTests {
    private static final int NONE = ConstraintText.NONE;
    private static final int LEAST = Integer.MIN_VALUE;
    private static final int MOST = Integer.MAX_VALUE;
    private static final Checks CHECKS = new Checks();
    private static final Reads READS = new Reads(CHECKS);

    private PromiseTests() {
    }

    public static void main(String[] args) {
        face();
        newObject();
        unit();
        units();
        name();
        readRows();
        readWordsThatCannotStand();
        readLimits();
        readNamesThatAreNoClock();
        readRings();
        readGreatClocks();
        readKeepsRowsBefore();
        clock();
        edge();
        distance();
        exception();
        row();
        load();
        patterns();
        unmatched();
        clash();
        write();
        count();
        throwingChangesNothing();
        CHECKS.end("promises");
    }

    private static void face() {
        CHECKS.same("NONE", ConstraintText.NONE, -1);
        CHECKS.yes("the class is final", Modifier.isFinal(ConstraintText.class.getModifiers()));
        TreeSet<String> seen = new TreeSet<>();
        for (Method method : ConstraintText.class.getDeclaredMethods()) {
            if (!Modifier.isPrivate(method.getModifiers())) {
                seen.add(method.getReturnType() + " " + method.getName() + method.getParameterCount()
                        + (method.getExceptionTypes().length > 0 ? "!" : ""));
            }
        }
        TreeSet<String> due = new TreeSet<>(Arrays.asList("boolean unit1", "boolean units1", "boolean name2!",
                "int read0", "int clock2!", "long edge3!", "long distance3!", "int exception3!", "int row2!",
                "int load2!", "int unmatched1!", "int clash2!", "int write1!", "int count1!"));
        CHECKS.same("the methods", seen.toString(), due.toString());
        Constructor<?>[] constructors = ConstraintText.class.getConstructors();
        CHECKS.same("public constructors", constructors.length, 1);
        CHECKS.same("public constants", ConstraintText.class.getFields().length, 1);
    }

    // Promise 1
    private static void newObject() {
        ConstraintText text = new ConstraintText();
        for (int what = 0; what < 4; what++) {
            CHECKS.same("new count " + what, text.count(what), 0);
        }
        CHECKS.same("new write", text.write(0), NONE);
        CHECKS.same("new unmatched", text.unmatched(0), NONE);
        CHECKS.same("new clash", text.clash(0, 0), NONE);
        CHECKS.refused("new row", () -> text.row(1, 0));
        CHECKS.refused("new clock", () -> text.clock(0, 0));
        CHECKS.same("new exception", text.exception(0, 39, NONE), 0);
        CHECKS.same("rows on nameless pins", Use.read(text, "load 1 *;slope 2 *;false * - -;clock c 2 0 1 *;"), 4);
        for (int pin = 0; pin < 40; pin++) {
            CHECKS.same("load of a nameless pin", text.load(pin, 0), NONE);
            CHECKS.same("slope of a nameless pin", text.load(pin, 1), NONE);
            CHECKS.same("exception of a nameless pin", text.exception(pin, pin, pin), 0);
        }
        CHECKS.same("pins of a clock at nameless pins", text.clock(0, 6), 0);
    }

    // Promise 2
    private static void unit() {
        ConstraintText text = new ConstraintText();
        for (int u = -300; u < 600; u++) {
            boolean due = u == 10 || u >= 32 && u <= 126;
            CHECKS.same("unit " + u, text.unit(u) ? 1 : 0, due ? 1 : 0);
        }
        CHECKS.same("tape", text.count(2), 96);
        for (int u : new int[] {LEAST, MOST, 256 + 32, 65536 + 97, -1}) {
            CHECKS.no("unit " + u, text.unit(u));
        }
        ConstraintText full = new ConstraintText();
        for (int i = 0; i < 1200; i++) {
            CHECKS.yes("unit at " + i, full.unit(' '));
        }
        CHECKS.no("unit without room", full.unit(' '));
        CHECKS.same("full tape", full.count(2), 1200);
        CHECKS.same("full tape of blanks", full.read(), 0);
        CHECKS.yes("unit behind read", full.unit(' '));
    }

    // Promise 3
    private static void units() {
        ConstraintText text = new ConstraintText();
        CHECKS.yes("no units", text.units(0));
        CHECKS.same("no units", text.count(2), 0);
        CHECKS.yes("zeros between", text.units('a' << 16 | 'b'));
        CHECKS.same("zeros between", text.count(2), 2);
        CHECKS.no("a wrong first one", text.units(200 << 24 | 'a' << 16 | 'b' << 8 | 'c'));
        CHECKS.no("a wrong last one", text.units('a' << 24 | 'b' << 16 | 'c' << 8 | 127));
        CHECKS.no("31", text.units(31));
        CHECKS.no("-1", text.units(-1));
        CHECKS.same("none came", text.count(2), 2);
        CHECKS.yes("a line's end", text.units(10 << 24 | 32 << 16 | 126 << 8 | 10));
        CHECKS.same("a line's end", text.count(2), 6);
        ConstraintText ordered = Use.withPins("a");
        CHECKS.yes("order", ordered.units('l' << 24 | 'o' << 16 | 'a' << 8 | 'd'));
        CHECKS.yes("order", ordered.units(' ' << 24 | '7' << 16 | ' ' << 8 | 'a'));
        CHECKS.yes("order", ordered.units(';' << 8));
        CHECKS.same("order", ordered.read(), 1);
        CHECKS.same("order", ordered.load(0, 0), 7);
        ConstraintText full = new ConstraintText();
        for (int i = 0; i < 1198; i++) {
            full.unit(' ');
        }
        CHECKS.no("three into room for two", full.units('a' << 16 | 'b' << 8 | 'c'));
        CHECKS.same("none came", full.count(2), 1198);
        CHECKS.yes("two into room for two", full.units('a' << 24 | 'b'));
        CHECKS.same("full", full.count(2), 1200);
        CHECKS.no("one without room", full.units('a'));
        CHECKS.yes("none without room", full.units(0));
    }

    // Promise 4
    private static void name() {
        ConstraintText text = new ConstraintText();
        for (int u = -300; u < 600; u++) {
            boolean due = u >= 'a' && u <= 'z' || u >= '0' && u <= '9' || u == '_' || u == '/';
            ConstraintText fresh = new ConstraintText();
            CHECKS.same("name " + u, fresh.name(0, u) ? 1 : 0, due ? 1 : 0);
        }
        CHECKS.no("name beyond a byte", text.name(0, 256 + 'a'));
        CHECKS.no("name beyond a char", text.name(0, 65536 + 'a'));
        for (int i = 0; i < 16; i++) {
            CHECKS.yes("letter " + i, text.name(39, 'a'));
        }
        CHECKS.no("a 17th letter", text.name(39, 'a'));
        CHECKS.yes("another pin's", text.name(38, 'b'));
        for (int pin : new int[] {-1, 40, LEAST, MOST}) {
            CHECKS.refused("name of pin " + pin, () -> text.name(pin, 'a'));
            CHECKS.refused("wrong name of pin " + pin, () -> text.name(pin, '*'));
        }
        CHECKS.same("the 16 letters", Use.read(text, "load 1 aaaaaaaaaaaaaaaa;load 2 b;load 3 a;"), 3);
        CHECKS.same("the 16 letters", text.load(39, 0), 1);
        CHECKS.same("the one letter", text.load(38, 0), 2);
        CHECKS.yes("a name goes on behind read", text.name(38, 'c'));
        CHECKS.same("the old name", text.load(38, 0), NONE);
        Use.read(text, "load 4 bc;");
        CHECKS.same("the new name", text.load(38, 0), 4);
        CHECKS.yes("a name begins behind read", text.name(0, 'b'));
        CHECKS.same("too short", text.load(0, 0), NONE);
        CHECKS.yes("a name goes on behind read", text.name(0, 'c'));
        CHECKS.same("as long", text.load(0, 0), 4);
    }

    // Promise 5
    private static void readRows() {
        READS.fine("", 0);
        READS.fine(" \n  ", 0);
        READS.fine("clock c 000010 000000 5 x;", 1);
        READS.fine("clock clock 2 1 0 *?_/09az;", 1);
        READS.fine("clock abcdefgh 999999 999998 999997 abcdefghijklmnop;", 1);
        READS.fine("\nclock\nc 2\n\n1 0  x\n;\n", 1);
        READS.fine("derive a b 1000 1 x;clock b 2 0 1 x;turned c a 1 1000 y;", 3);
        READS.fine("apart a a;clock a 2 0 1 x;", 2);
        READS.fine("false a - -;false - a -;false - - a;false a b c;", 4);
        READS.fine("cycles 2 a - -;cycles 100 - a -;cycles 000002 - - a;", 3);
        READS.fine("most 0 a - -;least 999999 - a -;", 2);
        READS.fine("load 0 a;slope 999999 a;", 2);
    }

    private static void readWordsThatCannotStand() {
        READS.faultAtMark("#;");
        READS.faultAtMark("#clocks c 2 0 1 x;");
        READS.faultAtMark("#Clock c 2 0 1 x;");
        READS.faultAtMark("#cloc c 2 0 1 x;");
        READS.faultAtMark("load 1 x; #x");
        READS.faultAtMark("load 1 x;#;");
        READS.faultAtMark("clock #;");
        READS.faultAtMark("clock #C 2 0 1 x;");
        READS.faultAtMark("clock #c1 2 0 1 x;");
        READS.faultAtMark("clock #abcdefghi 2 0 1 x;");
        READS.faultAtMark("clock c #0 0 0 x;");
        READS.faultAtMark("clock c #-2 0 1 x;");
        READS.faultAtMark("clock c #0000002 0 1 x;");
        READS.faultAtMark("clock c 2 #2 1 x;");
        READS.faultAtMark("clock c 2 1 #2 x;");
        READS.faultAtMark("clock c 2 1 #01 x;");
        READS.faultAtMark("clock c 1 0 #0 x;");
        READS.faultAtMark("clock c 2 1 0 #-;");
        READS.faultAtMark("clock c 2 1 0 #abcdefghijklmnopq;");
        READS.faultAtMark("clock c 2 1 0 #x+;");
        READS.faultAtMark("clock c 2 1 0 x #y;");
        READS.faultAtMark("clock c 2 1 0 x  #");
        READS.faultAtMark("clock c 2 1 0 x;load 1 y;derive #c c 1 1 x;");
        READS.faultAtMark("derive c #;");
        READS.faultAtMark("derive c d #0 1 x;");
        READS.faultAtMark("derive c d #1001 1 x;");
        READS.faultAtMark("turned c d 1 #0 x;");
        READS.faultAtMark("turned c d 1 #1001 x;");
        READS.faultAtMark("apart c #;");
        READS.faultAtMark("apart #1 c;");
        READS.faultAtMark("apart c d #e;");
        READS.faultAtMark("false - - #-;");
        READS.faultAtMark("false a b #;");
        READS.faultAtMark("false #-- a b;");
        READS.faultAtMark("false a b c #d;");
        READS.faultAtMark("cycles #1 a b c;");
        READS.faultAtMark("cycles #101 a b c;");
        READS.faultAtMark("cycles #a a b c;");
        READS.faultAtMark("cycles 2 - - #-;");
        READS.faultAtMark("most #1000000 a b c;");
        READS.faultAtMark("least 1 - - #-;");
        READS.faultAtMark("load #x x;");
        READS.faultAtMark("load 1 #-;");
        READS.faultAtMark("slope 1 #;");
        READS.faultAtMark("slope 1 x#");
        READS.faultAtMark("slope 1 #");
        READS.faultAtMark("slope 1   \n#");
        READS.faultAtMark("slope#");
    }

    private static void readLimits() {
        String forty = "load 1 a;".repeat(40);
        READS.fine(forty, 40);
        READS.fine(forty + " \n", 40);
        READS.fault(forty + "\nload 1 a;", forty.length() + 1);
        READS.fault(forty + "  x", forty.length() + 2);
        READS.fault(forty + ";", forty.length());
        StringBuilder twelve = new StringBuilder();
        for (char c = 'a'; c < 'm'; c++) {
            twelve.append("clock ").append(c).append(" 9 0 1 x;");
        }
        READS.fine(twelve.toString(), 12);
        READS.fault(twelve + "clock m 9 0 1 x;", twelve.length() + 6);
        READS.fault(twelve + "derive m zz 0 1 x;", twelve.length() + 7);
        READS.fault(twelve + "clock", twelve.length() + 5);
        String tail = "load 1 a;";
        String longest = " ".repeat(1200 - tail.length()) + tail;
        ConstraintText text = new ConstraintText();
        for (char c : longest.toCharArray()) {
            CHECKS.yes("the longest tape", text.unit(c));
        }
        CHECKS.same("the longest tape", text.read(), 1);
        for (int i = 0; i < 1200; i++) {
            text.unit('x');
        }
        CHECKS.same("the longest word", text.read(), -1);
    }

    private static void readNamesThatAreNoClock() {
        READS.faultAtMark("derive c #d 1 1 x;");
        READS.faultAtMark("apart #a b;");
        READS.faultAtMark("clock a 2 0 1 x;apart a #b;");
        READS.faultAtMark("clock a 2 0 1 x;apart a #b;derive c d 1 1 x;");
        READS.faultAtMark("derive c #d 1 1 x;apart a b;");
        READS.faultAtMark("derive c d 1 1 x;load #x x;");
        READS.faultAtMark("derive a a 1 1 x;derive c #d 1 1 x;");
        READS.faultAtMark("clock ab 2 0 1 x;derive c #a 1 1 x;");
        READS.faultAtMark("clock ab 2 0 1 x;derive c #abc 1 1 x;");
        READS.faultAtMark("clock ab 2 0 1 x;derive c #ac 1 1 x;");
        READS.faultAtMark("clock ab 2 0 1 x;derive c #cb 1 1 x;");
        READS.fine("clock ab 2 0 1 x;clock ac 2 0 1 x;clock cb 2 0 1 x;apart ab cb;", 4);
    }

    private static void readRings() {
        READS.faultAtMark("derive #c c 1 1 x;");
        READS.faultAtMark("clock b 2 0 1 x;derive d b 1 1 x;derive #c c 1 1 x;");
        READS.faultAtMark("derive e a 1 1 x;derive #a b 1 1 x;turned b a 1 1 x;");
        READS.faultAtMark("clock z 999999 0 1 x;derive y z 1000 1 x;derive #a b 1 1 x;derive b c 1 1 x;derive c a 1 1 x;");
        StringBuilder ring = new StringBuilder();
        for (char c = 'a'; c < 'm'; c++) {
            ring.append("derive ").append(c).append(' ').append(c == 'l' ? 'a' : (char) (c + 1)).append(" 1 1 x;");
        }
        READS.fault(ring.toString(), 7);
    }

    private static void readGreatClocks() {
        READS.fine("clock a 1000 0 1 x;derive b a 1000 1 x;", 2);
        READS.faultAtMark("clock a 1001 0 1 x;derive #b a 1000 1 x;");
        READS.faultAtMark("clock a 9901 0 1 x;derive #b a 101 1 x;");
        READS.fine("clock a 999 0 1 x;derive b a 1 1000 x;derive c b 1 1000 x;", 3);
        READS.faultAtMark("clock a 999 0 1 x;derive b a 1 1000 x;derive c b 1 1000 x;derive #d c 1 3 x;");
        READS.faultAtMark("clock a 1001 0 1 x;derive #c b 1 1000 x;derive b a 1000 1 x;");
        READS.faultAtMark("clock a 1001 0 1 x;derive b a 1 1000 x;derive #c d 1 1000 x;turned d a 1000 1 x;");
        READS.faultAtMark("clock a 999999 0 9 x;derive #b a 1000 999 x;");
        READS.fine("clock a 999 0 9 x;derive b a 1000 999 x;", 2);
        READS.fine("clock a 999000 0 999 x;derive b a 1000 999 x;", 2);
        StringBuilder chain = new StringBuilder();
        for (char c = 'a'; c < 'l'; c++) {
            chain.append("derive ").append(c).append(' ').append((char) (c + 1)).append(" 1000 1000 x;");
        }
        READS.fine(chain + "clock l 7 5 3 x;", 12);
        String great = chain.toString().replace("1000 1000", "1000 1");
        READS.fault(great + "clock l 7 5 3 x;", 7);
    }

    private static void readKeepsRowsBefore() {
        ConstraintText text = Use.withPins("x");
        Use.read(text, "load 1 x;clock c 2 0 1 x;");
        CHECKS.same("a fault", Use.read(text, "load 2 x;clock d 3 0 1 x;slope"), -1 - 30);
        CHECKS.same("the tape is empty", text.count(2), 0);
        CHECKS.same("rows stay", text.count(0), 2);
        CHECKS.same("clocks stay", text.clock(0, 0), 2);
        CHECKS.same("loads stay", text.load(0, 0), 1);
        CHECKS.same("print stays", Use.printed(text), "load 1 x;\nclock c 2 0 1 x;\n");
        CHECKS.same("a late fault", Use.read(text, "load 2 x;derive d d 1 1 x;"), -1 - 16);
        CHECKS.same("rows stay", text.count(0), 2);
        CHECKS.same("clocks stay", text.clock(0, 5), NONE);
        CHECKS.same("new rows", Use.read(text, "slope 3 x;"), 1);
        CHECKS.same("in place of the old ones", text.load(0, 0), NONE);
        CHECKS.same("in place of the old ones", text.count(1), 0);
        CHECKS.refused("in place of the old ones", () -> text.row(2, 0));
        CHECKS.same("no rows", text.read(), 0);
        CHECKS.same("in place of the old ones", text.load(0, 1), NONE);
        CHECKS.same("in place of the old ones", text.count(3), 0);
    }

    private static void clockIs(ConstraintText text, int clock, int... due) {
        for (int what = 0; what < due.length; what++) {
            CHECKS.same("clock(" + clock + ", " + what + ")", text.clock(clock, what), due[what]);
        }
    }

    private static void readsDoNotMix() {
        ConstraintText text = Use.withPins("x");
        String[] texts = {"load 9 x;clock a 6 4 2 x;derive b a 1 2 x;derive c b 1 2 x;",
            "derive c b 1 3 x;turned b a 1 2 x;clock a 6 4 2 x;load 8 x;",
            "clock a 999999 4 2 x;derive b a 1000 1 x;derive c b 1000 1 x;"};
        for (int i = 0; i < 12; i++) {
            int due = i % 3 == 2 ? -1 - 28 : 4;
            CHECKS.same("one text of three", Use.read(text, texts[i % 3]), due);
            boolean first = i % 3 == 0;
            clockIs(text, first ? 0 : 2, 6, 4, 2, 1, first ? 2 : 3, NONE, 1);
            clockIs(text, 1, 3, first ? 2 : 1, first ? 1 : 2, 1, first ? 3 : 2, first ? 0 : 2, 1);
            clockIs(text, first ? 2 : 0, first ? new int[] {3, 2, 1, 2, 4, 1, 1} : new int[] {3, 1, 2, 3, 1, 1, 1});
            CHECKS.same("value of row 1", text.row(1, 1), first ? 9 : 0);
            CHECKS.same("value of row 4", text.row(4, 1), first ? 0 : 8);
        }
        String great = "clock a 9999 0 1 x;derive b a 1000 1 x;";
        CHECKS.same("a great clock", Use.read(text, great), -1 - 26);
        CHECKS.same("one clock behind a great one", Use.read(text, "clock a 2 0 1 x;"), 1);
        CHECKS.same("a great clock", Use.read(text, great), -1 - 26);
        CHECKS.same("two clocks behind a great one", Use.read(text, "clock a 2 0 1 x;clock b 2 0 1 x;"), 2);
        Use.read(text, "load 9 x;");
        Use.read(text, "load 9 x;");
        Use.read(text, "clock a 2 0 1 x;");
        CHECKS.same("value behind a load's", text.row(1, 1), 0);
    }

    // Promise 6
    private static void clock() {
        ConstraintText text = Use.withPins("ck", "a/b", "a/c");
        Use.read(text, "load 1 *;turned t d 3 4 a/*;derive d m 2 3 a/b;clock m 9 6 3 *;derive u m 1 9 zz;"
                + "derive v t 4 3 ck;");
        clockIs(text, 0, 9, 3, 6, 2, 2, 1, 2);
        clockIs(text, 1, 6, 4, 2, 1, 3, 2, 1);
        clockIs(text, 2, 9, 6, 3, 1, 4, NONE, 3);
        clockIs(text, 3, 3, 2, 1, 3, 5, 2, 0);
        clockIs(text, 4, 6, 2, 4, 1, 6, 0, 1);
        readsDoNotMix();
        Use.grow(text, 3, "a/d");
        CHECKS.same("one pin more", text.clock(0, 6), 3);
        for (int bad : new int[] {-1, 5, 12, LEAST, MOST}) {
            CHECKS.refused("clock " + bad, () -> text.clock(bad, 0));
        }
        for (int bad : new int[] {-1, 7, LEAST, MOST}) {
            CHECKS.refused("clock's what " + bad, () -> text.clock(0, bad));
        }
    }

    private static void edgeIs(ConstraintText text, int clock, int k, long... due) {
        for (int part = 0; part < due.length; part++) {
            CHECKS.same("edge(" + clock + ", " + k + ", " + part + ")", text.edge(clock, k, part), due[part]);
        }
    }

    // Promise 7
    private static void edge() {
        ConstraintText text = new ConstraintText();
        Use.read(text, "clock a 10 2 7 x;turned b a 5 6 x;clock c 999999 999998 0 x;derive d c 1 1 x;");
        edgeIs(text, 0, 0, 2, 1, 1);
        edgeIs(text, 0, 1, 7, 1, 0);
        edgeIs(text, 0, 2, 12, 1, 1);
        edgeIs(text, 0, 1000, 5002, 1, 1);
        edgeIs(text, 0, 999, 4997, 1, 0);
        edgeIs(text, 1, 0, 5, 3, 0);
        edgeIs(text, 1, 1, 35, 6, 1);
        edgeIs(text, 1, 2, 10, 1, 0);
        edgeIs(text, 2, 0, 0, 1, 0);
        edgeIs(text, 2, 1, 999998, 1, 1);
        edgeIs(text, 2, 1000, 499999500L, 1, 0);
        for (int bad : new int[] {-1, 1001, LEAST, MOST}) {
            CHECKS.refused("edge " + bad, () -> text.edge(0, bad, 0));
            CHECKS.refused("edge of clock " + bad, () -> text.edge(bad, 0, 0));
            CHECKS.refused("edge's part " + bad, () -> text.edge(0, 0, bad));
        }
        CHECKS.refused("edge of clock 4", () -> text.edge(4, 0, 0));
        CHECKS.refused("edge's part 3", () -> text.edge(0, 0, 3));
    }

    private static void distanceIs(ConstraintText text, int a, int b, long upper, long lower) {
        CHECKS.same("distance(" + a + ", " + b + ", 0)", text.distance(a, b, 0), upper);
        CHECKS.same("distance(" + a + ", " + b + ", 1)", text.distance(a, b, 1), lower);
    }

    // Promise 8
    private static void distance() {
        ConstraintText text = new ConstraintText();
        Use.read(text, "clock a 10 2 7 x;clock b 15 1 0 x;derive c b 1 7 x;apart c a;apart b b;clock d 4 0 3 x;"
                + "clock e 4 3 0 x;");
        distanceIs(text, 0, 0, 10, 1);
        distanceIs(text, 0, 1, 4, 1);
        distanceIs(text, 1, 0, 1, 1);
        distanceIs(text, 0, 2, 0, 1);
        distanceIs(text, 2, 0, 0, 1);
        distanceIs(text, 1, 1, 0, 1);
        distanceIs(text, 2, 2, 15, 7);
        distanceIs(text, 1, 2, 9, 7);
        distanceIs(text, 2, 1, 6, 7);
        distanceIs(text, 3, 4, 3, 1);
        distanceIs(text, 4, 3, 1, 1);
        ConstraintText far = new ConstraintText();
        Use.read(far, "clock a 999 1 2 x;derive b a 1 1000 x;derive c b 1 1000 x;derive d a 1 997 x;"
                + "derive e d 1 991 x;");
        distanceIs(far, 2, 4, 123, 123503375000L);
        distanceIs(far, 4, 2, 3, 197605400000L);
        distanceIs(far, 2, 2, 999, 1000000);
        Use.read(far, "apart a b;clock a 4 0 1 x;clock b 4 1 0 x;clock ab 4 2 0 x;apart a ab;");
        distanceIs(far, 1, 0, 0, 1);
        distanceIs(far, 0, 2, 0, 1);
        distanceIs(far, 1, 2, 1, 1);
        for (int bad : new int[] {-1, 5, LEAST, MOST}) {
            CHECKS.refused("distance from " + bad, () -> text.distance(bad, 0, 0));
            CHECKS.refused("distance to " + bad, () -> text.distance(0, bad, 0));
            CHECKS.refused("distance's part " + bad, () -> text.distance(0, 0, bad));
            CHECKS.refused("distance's part when apart " + bad, () -> text.distance(1, 1, bad));
        }
        CHECKS.refused("distance's part 2", () -> text.distance(0, 0, 2));
    }

    // Promise 9
    private static void exception() {
        ConstraintText text = Use.withPins("a", "b", "c");
        Use.read(text, "cycles 2 a - -;least 1 - b -;most 2 - b -;false - - c;false - b -;false a - -;load 1 *;");
        CHECKS.same("from a", text.exception(0, NONE, NONE), 6);
        CHECKS.same("to before through", text.exception(NONE, 1, 2), 4);
        CHECKS.same("through", text.exception(NONE, 1, NONE), 5);
        CHECKS.same("from before to", text.exception(0, 1, 2), 6);
        CHECKS.same("none", text.exception(NONE, NONE, NONE), 0);
        CHECKS.same("other sides", text.exception(2, 0, 1), 0);
        Use.read(text, "cycles 3 a b c;most 4 - b -;least 5 - b -;cycles 2 a b c;");
        CHECKS.same("the later of most and least", text.exception(0, 1, 2), 3);
        Use.read(text, "cycles 3 a b c;least 5 - b -;most 4 - b -;cycles 2 a b c;");
        CHECKS.same("the later of least and most", text.exception(0, 1, 2), 3);
        Use.read(text, "cycles 3 a b c;cycles 2 a b c;cycles 4 a - c;cycles 5 - b c;cycles 6 a b -;");
        CHECKS.same("the heaviest", text.exception(0, 1, 2), 2);
        CHECKS.same("5 is heavier than 3", text.exception(0, 1, 0), 5);
        Use.read(text, "cycles 2 a - -;cycles 3 - b c;");
        CHECKS.same("4 is heavier than 3", text.exception(0, 1, 2), 1);
        Use.read(text, "false - - c;most 1 a b c;");
        CHECKS.same("strength before weight", text.exception(0, 1, 2), 1);
        CHECKS.same("- is any, and a nameless pin no pattern's", text.exception(39, 39, 2), 1);
        CHECKS.same("a pattern matches no nameless pin", text.exception(0, 1, 39), 0);
        Use.read(text, "false * - -;");
        CHECKS.same("a pattern does not match none", text.exception(NONE, 1, 2), 0);
        CHECKS.same("nor a nameless pin", text.exception(3, 1, 2), 0);
        for (int bad : new int[] {-2, 40, LEAST, MOST}) {
            CHECKS.refused("exception from " + bad, () -> text.exception(bad, 0, 0));
            CHECKS.refused("exception through " + bad, () -> text.exception(0, bad, 0));
            CHECKS.refused("exception to " + bad, () -> text.exception(0, 0, bad));
        }
    }

    // Promise 10
    private static void row() {
        ConstraintText text = new ConstraintText();
        Use.read(text, "clock a 10 2 7 x;derive b a 5 6 x;turned c a 5 6 x;apart a b;false x - -;cycles 100 x - -;"
                + "most 0007 x - -;least 999999 x - -;load 4 x;slope 5 x;");
        int[] values = {0, 0, 0, 0, 0, 100, 7, 999999, 4, 5};
        for (int row = 1; row <= 10; row++) {
            CHECKS.same("sort of row " + row, text.row(row, 0), row - 1);
            CHECKS.same("value of row " + row, text.row(row, 1), values[row - 1]);
        }
        for (int bad : new int[] {-1, 0, 11, 41, LEAST, MOST}) {
            CHECKS.refused("row " + bad, () -> text.row(bad, 0));
        }
        for (int bad : new int[] {-1, 2, LEAST, MOST}) {
            CHECKS.refused("row's what " + bad, () -> text.row(1, bad));
        }
    }

    // Promise 11
    private static void load() {
        ConstraintText text = Use.withPins("a", "ab", "b");
        Use.read(text, "load 1 *;slope 2 a*;load 3 a;slope 0 ab;load 4 z;");
        CHECKS.same("load", text.load(0, 0), 3);
        CHECKS.same("load", text.load(1, 0), 1);
        CHECKS.same("slope", text.load(0, 1), 2);
        CHECKS.same("slope 0", text.load(1, 1), 0);
        CHECKS.same("no slope", text.load(2, 1), NONE);
        CHECKS.same("a nameless pin's", text.load(3, 0), NONE);
        for (int bad : new int[] {-1, 40, LEAST, MOST}) {
            CHECKS.refused("load of pin " + bad, () -> text.load(bad, 0));
        }
        for (int bad : new int[] {-1, 2, LEAST, MOST}) {
            CHECKS.refused("load's what " + bad, () -> text.load(0, bad));
        }
    }

    private static void matches(String pattern, String name, boolean due) {
        ConstraintText text = Use.withPins(name);
        Use.read(text, "load 1 " + pattern + ";");
        CHECKS.same(pattern + " on '" + name + "'", text.load(0, 0), due ? 1 : NONE);
    }

    private static void patterns() {
        matches("*", "a", true);
        matches("*", "", false);
        matches("**", "", false);
        matches("?", "a", true);
        matches("?", "ab", false);
        matches("??", "a", false);
        matches("*?", "a", true);
        matches("?*", "a", true);
        matches("*a", "aa", true);
        matches("a*", "ba", false);
        matches("*a", "ab", false);
        matches("a*b*c", "abbcbc", true);
        matches("a*b*c", "abbcb", false);
        matches("*a*a*a*a*", "aaaa", true);
        matches("*a*a*a*a*a*", "aaaa", false);
        matches("****************", "a", true);
        matches("????????????????", "aaaaaaaaaaaaaaaa", true);
        matches("????????????????", "aaaaaaaaaaaaaaa", false);
        matches("*?*?*?*?*?*?*?*b", "aaaaaaaaaaaaaaab", true);
        matches("*?*?*?*?*?*?*?*b", "aaaaaab", false);
        matches("a/_9", "a/_9", true);
        matches("aaaaaaaaaaaaaaaa", "aaaaaaaaaaaaaaaa", true);
        matches("aaaaaaaaaaaaaaaa", "aaaaaaaaaaaaaaab", false);
    }

    // Promise 12
    private static void unmatched() {
        ConstraintText text = Use.withPins("a", "b");
        Use.read(text, "clock a 10 2 7 x;derive b a 5 6 a;turned c a 5 6 x;apart a b;false a - b;cycles 2 a x b;"
                + "most 7 - - x;least 9 x - -;load 4 c*;slope 5 ??;slope 5 *;");
        int[] due = {1, 3, 6, 7, 8, 9, 10, NONE, NONE};
        for (int k = 0; k < due.length; k++) {
            CHECKS.same("unmatched " + k, text.unmatched(k), due[k]);
        }
        CHECKS.same("unmatched far", text.unmatched(MOST), NONE);
        Use.grow(text, 2, "x");
        CHECKS.same("unmatched with x", text.unmatched(0), 9);
        Use.read(text, "load 1 zz;load 1 a;load 2 yy;");
        CHECKS.same("unmatched first row", text.unmatched(0), 1);
        CHECKS.same("unmatched last row", text.unmatched(1), 3);
        CHECKS.refused("unmatched -1", () -> text.unmatched(-1));
        CHECKS.refused("unmatched least", () -> text.unmatched(LEAST));
    }

    private static void clashesAre(ConstraintText text, int... due) {
        for (int k = 0; k < due.length / 2; k++) {
            CHECKS.same("clash(" + k + ", 0)", text.clash(k, 0), due[2 * k]);
            CHECKS.same("clash(" + k + ", 1)", text.clash(k, 1), due[2 * k + 1]);
        }
        CHECKS.same("clashes' end", text.clash(due.length / 2, 0), NONE);
        CHECKS.same("clashes' end", text.clash(due.length / 2, 1), NONE);
    }

    // Promise 13
    private static void clash() {
        ConstraintText text = Use.withPins("a", "b", "ab");
        Use.read(text, "load 1 a*;clock c 2 0 1 a;slope 2 a*;derive d c 1 1 ?;load 2 *b;turned e c 1 1 b;"
                + "load 01 ab;slope 2 *;slope 3 b;false a - -;false a - -;load 3 b;");
        clashesAre(text, 1, 5, 2, 4, 4, 6, 5, 7, 5, 12, 8, 9);
        CHECKS.same("clash far", text.clash(MOST, 1), NONE);
        Use.read(text, "clock c 2 0 1 x;clock d 2 0 1 x;load 1 x;load 2 x;");
        clashesAre(text);
        Use.grow(text, 3, "x");
        clashesAre(text, 1, 2, 3, 4);
        StringBuilder many = new StringBuilder();
        for (int i = 0; i < 40; i++) {
            many.append("load ").append(i).append(" *;");
        }
        Use.read(text, many.toString());
        CHECKS.same("the last of 780 clashes", text.clash(779, 0), 39);
        CHECKS.same("the last of 780 clashes", text.clash(779, 1), 40);
        CHECKS.same("no 781st clash", text.clash(780, 0), NONE);
        for (int bad : new int[] {-1, LEAST}) {
            CHECKS.refused("clash " + bad, () -> text.clash(bad, 0));
        }
        for (int bad : new int[] {-1, 2, LEAST, MOST}) {
            CHECKS.refused("clash's which " + bad, () -> text.clash(0, bad));
            CHECKS.refused("clash's which where none is " + bad, () -> text.clash(9999, bad));
        }
    }

    // Promise 14
    private static void write() {
        ConstraintText text = new ConstraintText();
        Use.read(text, "\n clock  a 000010\n02 00 007 ;turned b a 05 000006 x;apart a\nb;false 00 - *;"
                + "cycles 010 - 01 -;most 000000 - - x ; load 100200 ?;slope 00 x;   ");
        String due = "clock a 10 2 0 007;\nturned b a 5 6 x;\napart a b;\nfalse 00 - *;\ncycles 10 - 01 -;\n"
                + "most 0 - - x;\nload 100200 ?;\nslope 0 x;\n";
        CHECKS.same("printed", Use.printed(text), due);
        CHECKS.same("as many", text.count(3), due.length());
        CHECKS.same("behind the end", text.write(due.length()), NONE);
        CHECKS.same("far", text.write(MOST), NONE);
        CHECKS.same("read what is printed", Use.read(text, due), 8);
        CHECKS.same("printed again", Use.printed(text), due);
        Use.read(text, "load 100000 x;load 999999 x;load 010000 x;load 9 x;load 10 x;");
        CHECKS.same("tens", Use.printed(text), "load 100000 x;\nload 999999 x;\nload 10000 x;\nload 9 x;\nload 10 x;\n");
        for (int bad : new int[] {-1, LEAST}) {
            CHECKS.refused("write " + bad, () -> text.write(bad));
        }
        String row = "false aaaaaa aaaaaa aaaaaaa;";
        String full = row.repeat(40);
        ConstraintText longest = new ConstraintText();
        Use.put(longest, full + "\n".repeat(1200 - full.length()));
        CHECKS.same("40 long rows", longest.read(), 40);
        CHECKS.same("40 long rows printed", longest.count(3), full.length() + 40);
        CHECKS.same("40 long rows printed", Use.printed(longest), (row + "\n").repeat(40));
        String wide = "false aaaaaaa aaaaaaa aaaaaaaa;".repeat(38) + "load 1 aaa;" + "load 1 aa;";
        ConstraintText widest = new ConstraintText();
        Use.put(widest, wide);
        CHECKS.same("a tape almost full of rows", widest.read(), 40);
        CHECKS.same("a tape almost full of rows printed", widest.count(3), wide.length() + 40);
    }

    // Promise 15
    private static void count() {
        ConstraintText text = new ConstraintText();
        Use.read(text, "clock a 10 2 7 x;derive b a 1 1 x;load 1 x;");
        Use.put(text, "abcde");
        CHECKS.same("rows", text.count(0), 3);
        CHECKS.same("clocks", text.count(1), 2);
        CHECKS.same("on the tape", text.count(2), 5);
        CHECKS.same("printed", text.count(3), 46);
        text.read();
        CHECKS.same("the tape is empty behind read", text.count(2), 0);
        for (int bad : new int[] {-1, 4, LEAST, MOST}) {
            CHECKS.refused("count " + bad, () -> text.count(bad));
        }
    }

    private static void throwingChangesNothing() {
        ConstraintText text = Use.withPins("a");
        Use.read(text, "load 1 a;");
        Use.put(text, "load 2 a;");
        CHECKS.refused("name", () -> text.name(40, 'b'));
        CHECKS.refused("clock", () -> text.clock(0, 0));
        CHECKS.refused("write", () -> text.write(-1));
        CHECKS.same("the load", text.load(0, 0), 1);
        CHECKS.same("the tape", text.count(2), 9);
        CHECKS.same("the tape is read", text.read(), 1);
        CHECKS.same("the new load", text.load(0, 0), 2);
    }
}
