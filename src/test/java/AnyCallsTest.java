/** No call throws or fails to end, whatever the arguments and the state: calls from a fixed row of numbers. */
public final class AnyCallsTest {
    private static final String[] PARTS = {"enum ", "switch ", "value ", "number ", "text ", "case ", "default ", "add ",
        "let ", "use ", "break ", "yield ", "throw ", "if ", "else ", "a ", "b ", "1 ", "2 ", "\"a\" ", "{", "}", ":", ";",
        ",", "=", "-", "->", "@", "abcdefghi ", "switch number { case ", "case 1: ", "add 1; ", "if { ", "let a = 1; "};
    private static final int[] EDGES = {0, 1, 2, 7, 8, 9, 19, 20, 31, 32, 119, 120, -1, -2, Integer.MAX_VALUE,
        Integer.MIN_VALUE};

    private long state = 1;

    public static void main(String[] args) {
        Due due = new Due();
        AnyCallsTest any = new AnyCallsTest();
        for (int i = 0; i < 9000; i++) {
            any.useOne(due);
        }
        due.end();
    }

    private int next(int bound) {
        state = state * 6364136223846793005L + 1442695040888963407L;
        return (int) ((state >>> 33) % bound);
    }

    private int edge() {
        return next(3) == 0 ? next(40) - 5 : EDGES[next(EDGES.length)];
    }

    private void useOne(Due due) {
        SwitchRules x = new SwitchRules();
        for (int i = 0; i < 4; i++) {
            if (next(2) == 0) {
                Due.type(x, parts());
            }
            int arms = x.read();
            boolean isFaulty = arms < 0;
            due.is("whether place() tells a fault", x.place() >= 0 ? 1 : 0, isFaulty ? 1 : 0);
            due.is("whether told() refuses", x.told(2), isFaulty ? -3 : arms);
            others(x);
        }
    }

    private String parts() {
        StringBuilder all = new StringBuilder();
        boolean isWhole = next(2) == 0;
        all.append(isWhole ? "switch number { default: " : "");
        int n = next(30);
        for (int i = 0; i < n; i++) {
            all.append(PARTS[next(PARTS.length)]);
        }
        return all.append(isWhole ? "}" : "").toString();
    }

    private void others(SwitchRules x) {
        for (int i = 0; i < 6; i++) {
            x.told(edge());
            x.label(edge(), edge());
            x.run(edge(), edge());
            x.runNone();
            x.traced();
            x.trace(edge());
            x.value();
            x.form();
            x.keys();
            x.key(edge());
            x.target(edge());
            x.alike(edge());
            x.hash();
        }
        x.type(state, edge());
    }
}
