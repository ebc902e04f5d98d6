/** Counts answers that are not as due, and tells of each, with the document's sentence that asks for it. */
final class Checks {
    private String sentence = "";
    private int sentences = 0;
    private int made = 0;
    private int wrong = 0;

    /** What is checked from here on is what the document says in these words under this heading. */
    void sentence(String heading, String words) {
        sentence = heading + ", \"" + words + "\": ";
        sentences++;
        yes("these words stand in the document", Document.says(heading, words));
    }

    void same(String what, long got, long due) {
        made++;
        if (got != due) {
            tell(what + " answered " + got + ", due is " + due);
        }
    }

    void same(String what, String got, String due) {
        made++;
        if (!got.equals(due)) {
            tell(what + " answered '" + got + "', due is '" + due + "'");
        }
    }

    void yes(String what, boolean got) {
        same(what, got ? 1 : 0, 1);
    }

    void no(String what, boolean got) {
        same(what, got ? 1 : 0, 0);
    }

    /** Only the very class counts: a subclass would be one that the machine threw. */
    void refused(String what, Runnable call) {
        made++;
        Class<?> thrown = null;
        try {
            call.run();
        } catch (RuntimeException e) {
            thrown = e.getClass();
        }
        if (thrown != IndexOutOfBoundsException.class) {
            tell(what + " threw " + thrown + ", due is IndexOutOfBoundsException");
        }
    }

    private void tell(String fault) {
        wrong++;
        System.out.println(sentence + fault);
    }

    int wrong() {
        return wrong;
    }

    void end(String title) {
        String of = sentences > 0 ? " of " + sentences + " sentences" : "";
        System.out.println(title + ": " + made + " checks" + of + ", " + wrong + " wrong");
        if (wrong != 0) {
            System.exit(1);
        }
    }
}
