/** Promise 1, and the refusals of every call that wants a unit. */
public final class NewObjectTest {
    public static void main(String[] args) {
        Due due = new Due();
        bare(due, "a new object", new SwitchRules());

        SwitchRules faulty = Due.unit("value number { case 1, 2: add 7; default: yield 3; }");
        faulty.run(1, 0);
        Due.type(faulty, "switch number { case 1: case 1: }");
        due.is("read() with a fault", faulty.read(), -13);
        bareButPlace(due, "behind a fault", faulty);
        due.is("place() behind a fault", faulty.place(), 29);
        due.end();
    }

    private static void bare(Due due, String where, SwitchRules x) {
        due.is("place() of " + where, x.place(), -1);
        bareButPlace(due, where, x);
    }

    private static void bareButPlace(Due due, String where, SwitchRules x) {
        due.is("hash() of " + where, x.hash(), 0);
        for (int what = 0; what < 8; what++) {
            due.is("told(" + what + ") of " + where, x.told(what), -3);
        }
        due.is("told(-1) of " + where, x.told(-1), -2);
        due.is("told(8) of " + where, x.told(8), -2);
        due.is("label(0, 0) of " + where, x.label(0, 0), -3);
        due.is("label(-1, 5) of " + where, x.label(-1, 5), -3);
        due.is("run(0, 0) of " + where, x.run(0, 0), -3);
        due.is("run(-1, 0) of " + where, x.run(-1, 0), -3);
        due.is("runNone() of " + where, x.runNone(), -3);
        due.is("traced() of " + where, x.traced(), -3);
        due.is("trace(0) of " + where, x.trace(0), 0);
        due.is("value() of " + where, x.value(), 0);
        due.is("form() of " + where, x.form(), -3);
        due.is("keys() of " + where, x.keys(), -3);
        due.is("key(0) of " + where, x.key(0), 0);
        due.is("target(0) of " + where, x.target(0), -3);
        due.is("target(-1) of " + where, x.target(-1), -3);
        due.is("alike(0) of " + where, x.alike(0), -3);
        due.is("alike(99) of " + where, x.alike(99), -3);
    }
}
