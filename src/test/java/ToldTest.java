/** Promises 5 and 6: what is told of a unit and its labels. */
public final class ToldTest {
    public static void main(String[] args) {
        Due due = new Due();
        told(due, "switch number {}", 0, 0, 0, 0, 0, -1, 0, 0);
        told(due, "enum a { b, c } switch number { case 5: }", 0, 0, 1, 1, 0, -1, 1, 0);
        told(due, "value text { case \"a\", \"b\": default: yield 1; }", 1, 1, 2, 2, 1, 1, 1, 0);
        told(due, "enum a { b, c } enum d { e, f, g } switch d { default -> break; case f -> { } }",
            0, 2, 2, 1, 2, 0, 0, 3);
        told(due, "enum a { b, c } value a { case b -> -1; case c -> { if add 1; else { } yield 2; } }",
            1, 2, 2, 2, 6, -1, 0, 2);
        told(due, "switch number { case 1: { { } let a; } if { add 1; } break; case 2: default: throw 1; }",
            0, 0, 3, 2, 8, 2, 1, 0);
        labels(due);
        refusals(due);
        due.end();
    }

    private static void told(Due due, String signs, int... answers) {
        SwitchRules x = Due.unit(signs);
        for (int what = 0; what < 8; what++) {
            due.is("told(" + what + ") of " + signs, x.told(what), answers[what]);
        }
        due.is("told(8)", x.told(8), -2);
        due.is("told(-1)", x.told(-1), -2);
    }

    private static void labels(Due due) {
        String signs = "switch number { case 7, -3: default: case 999999999: case -999999999, -0: }";
        label(due, signs, new int[] {0, 0, 2, 3, 3}, new int[] {7, -3, 999999999, -999999999, 0});
        signs = "switch text { case \"b\": case \"Aa\", \"\", \"zzzzzzzz\": }";
        label(due, signs, new int[] {0, 1, 1, 1}, new int[] {'b', 2112, 0, "zzzzzzzz".hashCode()});
        signs = "enum z { a, b } enum a { b, c, a } switch a { case a -> break; case b, c -> break; }";
        label(due, signs, new int[] {0, 1, 1}, new int[] {2, 0, 1});
    }

    private static void label(Due due, String signs, int[] arms, int[] numbers) {
        SwitchRules x = Due.unit(signs);
        due.is("told(3) of " + signs, x.told(3), arms.length);
        for (int i = 0; i < arms.length; i++) {
            due.is("label(" + i + ", 0) of " + signs, x.label(i, 0), arms[i]);
            due.is("label(" + i + ", 1) of " + signs, x.label(i, 1), numbers[i]);
        }
        due.is("the label behind the last of " + signs, x.label(arms.length, 0), -1);
    }

    private static void refusals(Due due) {
        SwitchRules x = Due.unit("switch number { case 7: }");
        due.is("label(0, 2)", x.label(0, 2), -2);
        due.is("label(0, -1)", x.label(0, -1), -2);
        due.is("label(1, 2)", x.label(1, 2), -1);
        due.is("label(-1, 0)", x.label(-1, 0), -1);
        due.is("label(the most, 0)", x.label(Integer.MAX_VALUE, 0), -1);
        due.is("label(the least, 9)", x.label(Integer.MIN_VALUE, 9), -1);
        Due.type(x, "switch number {}");
        x.read();
        due.is("label(0, 0) of a unit that is no more", x.label(0, 0), -1);
    }
}
