/** Promises 7 to 11: runs, their traces and values. */
public final class RunTest {
    public static void main(String[] args) {
        Due due = new Due();
        oldArms(due);
        arrows(due);
        texts(due);
        constants(due);
        flags(due);
        manyFlags(due);
        names(due);
        latest(due);
        longTrace(due);
        due.end();
    }

    private static void oldArms(Due due) {
        SwitchRules x = Due.unit("switch number { case 1, -2: add 10; default: add 20; case 3: add 30; break;"
            + " case 4: case 5: { add 50; } case 999999999: throw 6; case 7: add 70; }");
        due.runs(x, 1, 0, 1, 0, 10, 20, 30);
        due.runs(x, -2, 0, 1, 0, 10, 20, 30);
        due.runs(x, 2, 0, 1, 0, 20, 30);
        due.runs(x, 3, 0, 1, 0, 30);
        due.runs(x, 4, 0, 3, 6, 50);
        due.runs(x, 5, 0, 3, 6, 50);
        due.runs(x, 999999999, 0, 3, 6);
        due.runs(x, 7, 0, 1, 0, 70);
        due.runs(x, Integer.MIN_VALUE, 0, 1, 0, 20, 30);
        SwitchRules y = Due.unit("switch number { case 1: add 1; }");
        due.runs(y, 2, 0, 1, 0);
        SwitchRules z = Due.unit("value number { case 1: add 1; case 2: add 2; yield -5; default: yield 0; }");
        due.runs(z, 1, 0, 2, -5, 1, 2);
        due.runs(z, 2, 0, 2, -5, 2);
        due.runs(z, 0, 0, 2, 0);
    }

    private static void arrows(Due due) {
        SwitchRules x = Due.unit("switch number { case 1 -> add 10; case 2 -> { add 20; add 21; }"
            + " case 3 -> throw 30; case 4 -> break; case 5 -> { { break; } } }");
        due.runs(x, 1, 0, 1, 0, 10);
        due.runs(x, 2, 0, 1, 0, 20, 21);
        due.runs(x, 3, 0, 3, 30);
        due.runs(x, 4, 0, 1, 0);
        due.runs(x, 5, 0, 1, 0);
        due.runs(x, 6, 0, 1, 0);
        SwitchRules y = Due.unit("value number { case 1 -> 10; default -> -999999999; case 2 -> throw 3;"
            + " case 4 -> { add 1; yield 5; } }");
        due.runs(y, 1, 0, 2, 10);
        due.runs(y, 2, 0, 3, 3);
        due.runs(y, 3, 0, 2, -999999999);
        due.runs(y, 4, 0, 2, 5, 1);
    }

    private static void texts(Due due) {
        SwitchRules x = Due.unit("value text { case \"Aa\" -> 1; case \"BB\" -> 2; case \"\" -> 3;"
            + " case \"abcdefgh\" -> 4; case \"a\" -> 5; default -> 6; }");
        String[] selectors = {"Aa", "BB", "", "abcdefgh", "a", "C#", "Aa ", " Aa", "abcdefghi", "aa", "\0a", "\0",
            "\u00ff\u00ff\u00ff\u00ff\u00ff\u00ff\u00ff\u00ff", "xabcdefgh"};
        int[] yields = {1, 2, 3, 4, 5, 6, 6, 6, 6, 6, 6, 6, 6, 6};
        for (int i = 0; i < selectors.length; i++) {
            Due.type(x, selectors[i]);
            due.runs(x, -1, 0, 2, yields[i]);
            due.runs(x, 7, 0, 2, yields[i]);
            due.is("hash() of a selector", x.hash(), selectors[i].hashCode());
        }
        SwitchRules y = Due.unit("switch text { case \"a\": add 1; }");
        due.runs(y, 0, 0, 1, 0);
        Due.type(y, "a");
        due.runs(y, 0, 0, 1, 0, 1);
    }

    private static void constants(Due due) {
        SwitchRules x = Due.unit("enum a { b, c, d } value a { case d -> 30; case b -> 10; case c -> { add 1; yield 20; } }");
        due.runs(x, 0, 0, 2, 10);
        due.runs(x, 1, 0, 2, 20, 1);
        due.is("run(-1, 0)", x.run(-1, 0), -2);
        due.is("run(the least, 0)", x.run(Integer.MIN_VALUE, 0), -2);
        due.latest("a refused run", x, 20, 1);
        due.runs(x, 2, 0, 2, 30);
        due.runs(x, 3, 0, 5, 0);
        due.runs(x, Integer.MAX_VALUE, 0, 5, 0);
        SwitchRules y = Due.unit("enum a { b, c } value a { case b -> 1; default -> 2; }");
        due.runs(y, 1, 0, 2, 2);
        due.runs(y, 2, 0, 2, 2);
        SwitchRules z = Due.unit("enum a { b, c } switch a { case b: case c: add 1; }");
        due.runs(z, 1, 0, 1, 0, 1);
        due.runs(z, 2, 0, 1, 0);
        due.is("run(-1, 0) of a switch", z.run(-1, 0), -2);
    }

    private static void flags(Due due) {
        SwitchRules x = Due.unit("switch number { default: if add 1; else add 2; if { if add 3; add 4; } if add 5; add 6; }");
        due.runs(x, 0, 0, 1, 0, 2, 6);
        due.runs(x, 0, 1, 1, 0, 1, 6);
        due.runs(x, 0, 2, 1, 0, 2, 4, 6);
        due.runs(x, 0, 4, 1, 0, 2, 5, 6);
        due.runs(x, 0, 6, 1, 0, 2, 3, 4, 6);
        due.runs(x, 0, 15, 1, 0, 1, 3, 4, 5, 6);
        SwitchRules y = Due.unit("value number { default: if if yield 1; else yield 2; else if yield 3; else throw 4; }");
        due.runs(y, 0, 3, 2, 1);
        due.runs(y, 0, 1, 2, 2);
        due.runs(y, 0, 2, 2, 3);
        due.runs(y, 0, 0, 3, 4);
        SwitchRules z = Due.unit("switch number { default: if if add 1; else add 2; add 3; }");
        due.runs(z, 0, 0, 1, 0, 3);
        due.runs(z, 0, 1, 1, 0, 2, 3);
        due.runs(z, 0, 3, 1, 0, 1, 3);
    }

    private static void manyFlags(Due due) {
        SwitchRules x = Due.unit("switch number { default: " + Due.numbered(34, "if add ", ";", "") + " }");
        int[] all = new int[32];
        for (int i = 0; i < 32; i++) {
            all[i] = i;
        }
        due.runs(x, 0, -1, 1, 0, all);
        due.runs(x, 0, Integer.MIN_VALUE, 1, 0, 31);
        due.runs(x, 0, 0x10001, 1, 0, 0, 16);
    }

    private static void names(Due due) {
        SwitchRules x = Due.unit("switch number { case 1: let a = 5; let b = 6; use b; use a; a = 7; use a;"
            + " case 2: b = 8; { let c = 9; use c; } { let d = 10; use d; } use b;"
            + " case 3: let e; if e = 11; else { e = 12; } use e; }");
        due.runs(x, 1, 1, 1, 0, 6, 5, 7, 9, 10, 8, 11);
        due.runs(x, 2, 0, 1, 0, 9, 10, 8, 12);
        due.runs(x, 3, 1, 1, 0, 11);
    }

    private static void latest(Due due) {
        SwitchRules x = Due.unit("value number { case 1: add 3; yield 4; default: add 5; throw 6; }");
        due.is("traced() before", x.traced(), -3);
        due.is("trace(0) before", x.trace(0), 0);
        due.is("value() before", x.value(), 0);
        due.runs(x, 1, 0, 2, 4, 3);
        due.runs(x, 2, 0, 3, 6, 5);
        due.is("runNone()", x.runNone(), 4);
        due.latest("runNone()", x, 0);
        due.runs(x, 1, 0, 2, 4, 3);
        due.is("trace(the most)", x.trace(Integer.MAX_VALUE), 0);
        due.is("trace(the least)", x.trace(Integer.MIN_VALUE), 0);
        Due.type(x, "switch number { default: add 9; }");
        due.latest("run(), with a text typed", x, 4, 3);
        due.is("read()", x.read(), 1);
        due.is("traced() behind read()", x.traced(), -3);
        due.is("trace(0) behind read()", x.trace(0), 0);
        due.is("value() behind read()", x.value(), 0);
        due.runs(x, 1, 0, 1, 0, 9);
        SwitchRules y = Due.unit("switch number {}");
        due.is("runNone() at first", y.runNone(), 4);
        due.latest("runNone() at first", y, 0);
    }

    private static void longTrace(Due due) {
        SwitchRules x = Due.unit("switch number { default: " + Due.numbered(120, "add ", ";", "") + " }");
        int[] all = new int[120];
        for (int i = 0; i < 120; i++) {
            all[i] = i;
        }
        due.runs(x, 0, 0, 1, 0, all);
    }
}
