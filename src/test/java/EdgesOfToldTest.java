/** The edges of promises 3, 5 and 6: arms, what is told of a unit, its labels. */
public final class EdgesOfToldTest {
    private static final int[] OUTSIDE = {-1, 8, 9, -8, 32, Integer.MAX_VALUE, Integer.MIN_VALUE};

    public static void main(String[] args) {
        Due due = new Due();
        howManyArms(due);
        whetherAValue(due);
        itsSort(due);
        labelsFromNone(due);
        stmtsFromNone(due);
        theDefault(due);
        whetherOld(due);
        constantsOfIts(due);
        outsideItsBounds(due);
        noUnit(due);
        labelArms(due);
        labelNumbers(due);
        labelsThatLookLikeRefusals(due);
        labelRefusals(due);
        due.end();
    }

    private static void howManyArms(Due due) {
        due.by("Promise 3: how many arms its unit has; Promise 5: 2 arms");
        for (int n = 0; n <= 20; n++) {
            SwitchRules x = new SwitchRules();
            Due.type(x, "switch number { " + Due.numbered(n, "case ", ": ", "") + "}");
            due.is("read() of " + n, x.read(), n);
            due.is("told(2) of " + n, x.told(2), n);
        }
        due.is("read() of 0 arms again", Due.unit("switch text {}").told(2), 0);
    }

    private static void whetherAValue(Due due) {
        due.by("Promise 5: what = 0 whether it is a value");
        due.is("told(0) of a switch", Due.unit("switch number { default: }").told(0), 0);
        due.is("told(0) of a value", Due.unit("value number { default -> 1; }").told(0), 1);
        SwitchRules x = Due.unit("value number { default -> 1; }");
        Due.type(x, "switch number {}");
        x.read();
        due.is("told(0) of a switch behind a value", x.told(0), 0);
    }

    private static void itsSort(Due due) {
        due.by("Promise 5: 1 its sort (0 number, 1 text, 2 enumeration)");
        due.is("told(1) of numbers", Due.unit("enum e { k } switch number {}").told(1), 0);
        due.is("told(1) of texts", Due.unit("enum e { k } switch text {}").told(1), 1);
        due.is("told(1) of constants", Due.unit("enum e { k } switch e {}").told(1), 2);
    }

    private static void labelsFromNone(Due due) {
        due.by("Promise 5: 3 labels");
        due.is("told(3) of none", Due.unit("switch number { default: }").told(3), 0);
        for (int n = 1; n <= 32; n++) {
            String labels = Due.numbered(n, "", "", ", ");
            due.is("told(3) of " + n, Due.unit("switch number { default: case " + labels + ": }").told(3), n);
        }
        due.is("told(3) over arms", Due.unit("switch number { case 1, 2: case 3: default: case 4, 5, 6: }").told(3), 6);
    }

    private static void stmtsFromNone(Due due) {
        due.by("Promise 5: 4 stmts");
        String[] stmts = {"", "{ }", "{ { } }", "add 1;", "let a;", "let a = 1;", "if add 1;", "if add 1; else add 2;",
            "if { } else { }", "let a; a = 1; use a;", "break;", "throw 1;", "if if add 1; else { add 2; break; }"};
        int[] counts = {0, 1, 2, 1, 1, 1, 2, 3, 3, 3, 1, 1, 6};
        for (int i = 0; i < stmts.length; i++) {
            due.is("told(4) of " + stmts[i], Due.unit("switch number { case 1: " + stmts[i] + " }").told(4), counts[i]);
            due.is("told(4) of a block of " + stmts[i],
                Due.unit("switch number { case 1 -> { " + stmts[i] + " } }").told(4), counts[i] + 1);
        }
        due.is("told(4) of no arms", Due.unit("switch number {}").told(4), 0);
        due.is("told(4) of a number", Due.unit("value number { default -> 1; }").told(4), 1);
        due.is("told(4) of a number with -", Due.unit("value number { default -> -1; }").told(4), 1);
        due.is("told(4) of a throw", Due.unit("value number { default -> throw 1; }").told(4), 1);
        due.is("told(4) of a simple", Due.unit("switch number { default -> add 1; case 1 -> break; }").told(4), 2);
        due.is("told(4) of 120", Due.unit("switch number { default: " + Due.times(120, "{}") + " }").told(4), 120);
    }

    private static void theDefault(Due due) {
        due.by("Promise 5: 5 the arm with default (-1: none)");
        due.is("told(5) of no arms", Due.unit("switch number {}").told(5), -1);
        due.is("told(5) of none", Due.unit("switch number { case 1: case 2: }").told(5), -1);
        for (int i = 0; i < 20; i++) {
            StringBuilder arms = new StringBuilder();
            for (int j = 0; j < 20; j++) {
                arms.append(j == i ? "default: " : "case " + j + ": ");
            }
            due.is("told(5) of arm " + i, Due.unit("switch number { " + arms + "}").told(5), i);
        }
        SwitchRules x = Due.unit("switch number { case 1: default: }");
        Due.type(x, "switch number { case 1: case 2: }");
        x.read();
        due.is("told(5) of none behind one", x.told(5), -1);
    }

    private static void whetherOld(Due due) {
        due.by("Promise 5: 6 whether arms are old ones (0: arrows, or none)");
        due.is("told(6) of none", Due.unit("switch number {}").told(6), 0);
        due.is("told(6) of arrows", Due.unit("switch number { case 1 -> break; }").told(6), 0);
        due.is("told(6) of old ones", Due.unit("switch number { case 1: }").told(6), 1);
        SwitchRules x = Due.unit("switch number { case 1: }");
        Due.type(x, "switch number {}");
        x.read();
        due.is("told(6) of none behind old ones", x.told(6), 0);
    }

    private static void constantsOfIts(Due due) {
        due.by("Promise 5: 7 constants of its enumeration (0 of other sorts)");
        for (int n = 1; n <= 16; n++) {
            String text = "enum d { a, b, c } enum e { " + Due.numbered(n, "k", "", ", ") + " } enum f { x, y } ";
            due.is("told(7) of " + n, Due.unit(text + "switch e {}").told(7), n);
            due.is("told(7) of numbers", Due.unit(text + "switch number {}").told(7), 0);
            due.is("told(7) of texts", Due.unit(text + "switch text {}").told(7), 0);
        }
        SwitchRules x = Due.unit("enum e { k, l } switch e {}");
        Due.type(x, "switch number {}");
        x.read();
        due.is("told(7) of numbers behind constants", x.told(7), 0);
    }

    private static void outsideItsBounds(Due due) {
        due.by("Promise 5: -2");
        SwitchRules x = Due.unit("switch number { case 1: }");
        for (int what : OUTSIDE) {
            due.is("told(" + what + ")", x.told(what), -2);
        }
        due.by("REFUSALS: the first that fits (told: -2 ahead of -3)");
        for (int what : OUTSIDE) {
            due.is("told(" + what + ") without a unit", new SwitchRules().told(what), -2);
        }
    }

    private static void noUnit(Due due) {
        due.by("Promises 5, 6: -3 (there is no unit)");
        SwitchRules gone = Due.unit("switch number { case 1: }");
        gone.read();
        SwitchRules[] both = {new SwitchRules(), gone};
        for (SwitchRules x : both) {
            for (int what = 0; what < 8; what++) {
                due.is("told(" + what + ")", x.told(what), -3);
            }
            due.is("label(0, 0)", x.label(0, 0), -3);
            due.is("label(0, 1)", x.label(0, 1), -3);
        }
    }

    private static void labelArms(Due due) {
        due.by("Promise 6: Label i (in the order of THE TEXT): what = 0 its arm");
        SwitchRules x = Due.unit("switch number { case 9, 8: default: case 7: case 6, 5, 4: }");
        int[] arms = {0, 0, 2, 3, 3, 3};
        int[] numbers = {9, 8, 7, 6, 5, 4};
        for (int i = 0; i < 6; i++) {
            due.is("label(" + i + ", 0)", x.label(i, 0), arms[i]);
            due.is("label(" + i + ", 1)", x.label(i, 1), numbers[i]);
        }
        SwitchRules y = Due.unit("switch number { " + Due.numbered(19, "case ", ": ", "")
            + "case " + Due.numbered(13, "-1", "", ", ") + ": }");
        due.is("label(18, 0)", y.label(18, 0), 18);
        due.is("label(19, 0)", y.label(19, 0), 19);
        due.is("label(31, 0)", y.label(31, 0), 19);
        due.is("label(31, 1)", y.label(31, 1), -112);
        due.is("label(32, 0)", y.label(32, 0), -1);
    }

    private static void labelNumbers(Due due) {
        due.by("Promise 6: 1 its number, its constant's place, its HASH");
        SwitchRules x = Due.unit("switch number { case 999999999, -999999999, 000, -5: }");
        int[] numbers = {999999999, -999999999, 0, -5};
        for (int i = 0; i < 4; i++) {
            due.is("label(" + i + ", 1) of numbers", x.label(i, 1), numbers[i]);
        }
        SwitchRules y = Due.unit("enum d { k15 } enum e { " + Due.numbered(16, "k", "", ", ")
            + " } switch e { case k15, k0, k7: }");
        int[] places = {15, 0, 7};
        for (int i = 0; i < 3; i++) {
            due.is("label(" + i + ", 1) of constants", y.label(i, 1), places[i]);
        }
        SwitchRules z = Due.unit("switch text { case \"\", \"a\", \"zzzzzz\", \"aAgaAXq\", \"aAgaAXp\", \"Aa\", \"BB\": }");
        int[] hashes = {0, 97, -685785664, Integer.MIN_VALUE, Integer.MAX_VALUE, 2112, 2112};
        for (int i = 0; i < 7; i++) {
            due.is("label(" + i + ", 1) of texts", z.label(i, 1), hashes[i]);
        }
    }

    private static void labelsThatLookLikeRefusals(Due due) {
        due.by("Promise 6: (these may look like refusals)");
        SwitchRules x = Due.unit("switch number { case -1, -2, -3, -4, -11: }");
        SwitchRules y = Due.unit("switch text { case \"bmgkAEr\", \"bmgkAEq\", \"bmgkAEp\", \"bmgkAEo\": }");
        for (int i = 0; i < 4; i++) {
            due.is("label(" + i + ", 1) of numbers", x.label(i, 1), -1 - i);
            due.is("label(" + i + ", 1) of texts", y.label(i, 1), -1 - i);
        }
        due.is("label(4, 1)", x.label(4, 1), -11);
    }

    private static void labelRefusals(Due due) {
        due.by("Promise 6: -3, -1, -2. (the first that fits)");
        int[] wrongLabels = {-1, 2, 3, 32, Integer.MAX_VALUE, Integer.MIN_VALUE};
        int[] wrongWhats = {-1, 2, 3, Integer.MAX_VALUE, Integer.MIN_VALUE};
        SwitchRules x = Due.unit("switch number { case 5, 6: }");
        SwitchRules none = Due.unit("switch number { default: }");
        SwitchRules bare = new SwitchRules();
        for (int i : wrongLabels) {
            due.is("label(" + i + ", 0)", x.label(i, 0), -1);
            due.is("label(" + i + ", 1)", x.label(i, 1), -1);
            due.is("label(" + i + ", 2)", x.label(i, 2), -1);
            due.is("label(" + i + ", -1) of no labels", none.label(i, -1), -1);
            due.is("label(" + i + ", -1) of no unit", bare.label(i, -1), -3);
        }
        for (int what : wrongWhats) {
            due.is("label(0, " + what + ")", x.label(0, what), -2);
            due.is("label(1, " + what + ")", x.label(1, what), -2);
            due.is("label(2, " + what + ")", x.label(2, what), -1);
            due.is("label(0, " + what + ") of no labels", none.label(0, what), -1);
            due.is("label(0, " + what + ") of no unit", bare.label(0, what), -3);
        }
    }
}
