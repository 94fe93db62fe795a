/** The example of README.md answers what stands there. */
public final class ExampleTest {
    public static void main(String[] args) {
        Due due = new Due();
        SwitchRules x = new SwitchRules();
        Due.type(x, "value text { case \"a\", \"b\" -> 5; default -> { add 7; throw 9; } }");
        due.is("read()", x.read(), 2);
        Due.type(x, "b");
        due.is("run(0, 0) with b", x.run(0, 0), 2);
        due.is("value() with b", x.value(), 5);
        Due.type(x, "c");
        due.is("run(0, 0) with c", x.run(0, 0), 3);
        due.is("value() with c", x.value(), 9);
        due.is("trace(0) with c", x.trace(0), 7);
        Due.type(x, "switch number { case 1: case 1: }");
        due.is("read() of a label twice", x.read(), -13);
        due.is("place() of a label twice", x.place(), 29);
        due.end();
    }
}
