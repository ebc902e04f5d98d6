/** What read answers to a text on a new object. */
final class Reads {
    private final Checks checks;

    Reads(Checks checks) {
        this.checks = checks;
    }

    void fine(String rows, int due) {
        checks.same("read '" + rows + "'", Use.read(new ConstraintText(), rows), due);
    }

    void fault(String rows, int place) {
        checks.same("read '" + rows + "'", Use.read(new ConstraintText(), rows), -1 - place);
    }

    /** The one # marks the fault and is left out. */
    void faultAtMark(String marked) {
        fault(marked.replace("#", ""), marked.indexOf('#'));
    }
}
