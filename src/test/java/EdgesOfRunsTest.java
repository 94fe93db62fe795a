import java.util.Arrays;

/** The edges of a RUN, and of promises 7 to 11. */
public final class EdgesOfRunsTest {
    public static void main(String[] args) {
        Due due = new Due();
        eachFlag(due);
        behindTheLastFlags(due);
        onlyIfsComeTo(due);
        armOfTheLabel(due);
        elseTheDefault(due);
        elseItEnds(due);
        goesOnIntoTheNext(due);
        addsOfAnySize(due);
        usesOfAnySize(due);
        endsBehindTheLastArm(due);
        endsBehindABody(due);
        endsByABreak(due);
        endsByAYield(due);
        endsByAThrow(due);
        withoutASelector(due);
        cameLater(due);
        selectorsOfNumbers(due);
        selectorsOfConstants(due);
        placesBelowZero(due);
        selectorsOfTexts(due);
        textsThatAreNoLabels(due);
        textsByTheirSigns(due);
        textStays(due);
        noUnit(due);
        tracedSinceRead(due);
        numbersOfTheTrace(due);
        fullTrace(due);
        valueElse(due);
        due.end();
    }

    private static void eachFlag(Due due) {
        due.by("FLAGS: 32 bits; each if that is come to takes the next one, from the lowest on: 1 its stmt, 0 its else");
        SwitchRules x = Due.unit("switch number { default: " + Due.numbered(32, "if add ", ";", "") + " }");
        for (int i = 0; i < 32; i++) {
            due.runs(x, 0, 1 << i, 1, 0, i);
        }
        due.runs(x, 0, 0, 1, 0);
        SwitchRules y = Due.unit("switch number { default: if add 1; else add 2; }");
        due.runs(y, 0, 1, 1, 0, 1);
        due.runs(y, 0, 0, 1, 0, 2);
        due.runs(y, 0, -2, 1, 0, 2);
        due.runs(y, 0, Integer.MIN_VALUE, 1, 0, 2);
        due.runs(y, 0, Integer.MAX_VALUE, 1, 0, 1);
    }

    private static void behindTheLastFlags(Due due) {
        due.by("FLAGS: .. (behind the last ones: 0)");
        SwitchRules x = Due.unit("switch number { default: " + Due.times(31, "if { }") + Due.numbered(4, "if add ", ";", "")
            + " if add 7; else add 8; }");
        due.runs(x, 0, -1, 1, 0, 0, 8);
        due.runs(x, 0, Integer.MIN_VALUE, 1, 0, 0, 8);
        due.runs(x, 0, Integer.MAX_VALUE, 1, 0, 8);
        due.runs(x, 0, 0, 1, 0, 8);
    }

    private static void onlyIfsComeTo(Due due) {
        due.by("each if that is come to takes the next one");
        SwitchRules x = Due.unit("switch number { case 1: if if add 1; else if add 2;"
            + " case 2: if add 3; else if add 4; default: if add 5; }");
        due.runs(x, 1, 0b000, 1, 0);
        due.runs(x, 1, 0b101, 1, 0, 2);
        due.runs(x, 1, 0b1101, 1, 0, 2, 3);
        due.runs(x, 1, 0b011, 1, 0, 1);
        due.runs(x, 1, 0b110, 1, 0, 3, 5);
        due.runs(x, 2, 0b01, 1, 0, 3);
        due.runs(x, 2, 0b110, 1, 0, 4, 5);
        due.runs(x, 3, 0b1, 1, 0, 5);
        due.runs(x, 3, 0b10, 1, 0);
        SwitchRules y = Due.unit("switch number { case 1 -> { if break; if add 1; } case 2 -> { if add 2; } }");
        due.runs(y, 1, 0b11, 1, 0);
        due.runs(y, 1, 0b10, 1, 0, 1);
        due.runs(y, 2, 0b10, 1, 0);
    }

    private static void armOfTheLabel(Due due) {
        due.by("It begins at the arm with the selector's label");
        StringBuilder arms = new StringBuilder();
        for (int i = 0; i < 16; i++) {
            arms.append("case ").append(i).append(", -").append(i + 100).append(" -> ").append(10 * i).append("; ");
        }
        SwitchRules x = Due.unit("value number { " + arms + "default -> 999; }");
        for (int i = 0; i < 16; i++) {
            due.runs(x, i, 0, 2, 10 * i);
            due.runs(x, -i - 100, 0, 2, 10 * i);
        }
        due.runs(x, 16, 0, 2, 999);
    }

    private static void elseTheDefault(Due due) {
        due.by("else at the default");
        SwitchRules first = Due.unit("value number { default -> 9; case 1 -> 1; }");
        SwitchRules last = Due.unit("value number { case 1 -> 1; default -> 9; }");
        SwitchRules alone = Due.unit("value number { default -> 9; }");
        int[] others = {0, 2, -1, Integer.MAX_VALUE, Integer.MIN_VALUE};
        for (int v : others) {
            due.runs(first, v, 0, 2, 9);
            due.runs(last, v, 0, 2, 9);
            due.runs(alone, v, 0, 2, 9);
        }
        due.runs(first, 1, 0, 2, 1);
        due.runs(last, 1, 0, 2, 1);
        due.runs(alone, 1, 0, 2, 9);
    }

    private static void elseItEnds(Due due) {
        due.by("else ends .. 1 .. without an arm (of a switch)");
        String[] units = {"switch number {}", "switch number { case 1: add 1; throw 2; }", "switch text {}",
            "switch text { case \"a\" -> throw 1; }", "enum e { k, l } switch e {}",
            "enum e { k, l } switch e { case k -> throw 1; }"};
        for (String unit : units) {
            SwitchRules x = Due.unit(unit);
            due.runs(x, 5, -1, 1, 0);
        }
    }

    private static void goesOnIntoTheNext(Due due) {
        due.by("An old arm goes on into the next one.");
        SwitchRules x = Due.unit("switch number { " + Due.numbered(19, "case ", ": add 1;", "") + " default: }");
        for (int v = 0; v < 20; v++) {
            int[] ones = new int[19 - Math.min(v, 19)];
            Arrays.fill(ones, 1);
            due.runs(x, v, 0, 1, 0, ones);
        }
        SwitchRules y = Due.unit("switch number { case 1: case 2: default: case 3: add 7; }");
        for (int v = 0; v < 5; v++) {
            due.runs(y, v, 0, 1, 0, 7);
        }
    }

    private static void addsOfAnySize(Due due) {
        due.by("add N: N comes to THE TRACE");
        SwitchRules x = Due.unit("switch number { default: add 0; add 999999999; add 000000001; add 0; }");
        due.runs(x, 0, 0, 1, 0, 0, 999999999, 1, 0);
    }

    private static void usesOfAnySize(Due due) {
        due.by("use: what the NAME is");
        SwitchRules x = Due.unit("switch number { default: let a = 0; use a; a = 999999999; use a;"
            + " let b = 1; { a = 2; b = 3; } use a; use b; use b; }");
        due.runs(x, 0, 0, 1, 0, 0, 999999999, 2, 3, 3);
        SwitchRules y = Due.unit("switch number { case 1: let a = 5; use a; case 2: a = 6; use a;"
            + " case 3: let b; if b = 7; else b = 8; use b; }");
        due.runs(y, 1, 1, 1, 0, 5, 6, 7);
        due.runs(y, 2, 0, 1, 0, 6, 8);
        due.runs(y, 3, 1, 1, 0, 7);
        due.runs(y, 4, 1, 1, 0);
    }

    private static void endsBehindTheLastArm(Due due) {
        due.by("It ENDS: 1 behind the last arm");
        SwitchRules x = Due.unit("switch number { case 1: add 1; case 2: }");
        due.runs(x, 1, 0, 1, 0, 1);
        due.runs(x, 2, 0, 1, 0);
        SwitchRules y = Due.unit("switch number { default: if break; else { } }");
        due.runs(y, 1, 0, 1, 0);
        due.runs(y, 1, 1, 1, 0);
    }

    private static void endsBehindABody(Due due) {
        due.by("It ENDS: 1 behind .. a body");
        SwitchRules x = Due.unit("switch number { case 1 -> { } case 2 -> add 2; case 3 -> { { add 3; } } default -> add 4; }");
        due.runs(x, 1, 0, 1, 0);
        due.runs(x, 2, 0, 1, 0, 2);
        due.runs(x, 3, 0, 1, 0, 3);
        due.runs(x, 0, 0, 1, 0, 4);
    }

    private static void endsByABreak(Due due) {
        due.by("It ENDS: 1 .. by a break");
        SwitchRules x = Due.unit("switch number { case 1: add 1; {{ if break; }} add 2; break; case 2: add 3; }");
        due.runs(x, 1, 1, 1, 0, 1);
        due.runs(x, 1, 0, 1, 0, 1, 2);
        due.runs(x, 2, 0, 1, 0, 3);
        due.runs(Due.unit("switch number { default -> break; case 1 -> add 1; }"), 0, 0, 1, 0);
    }

    private static void endsByAYield(Due due) {
        due.by("It ENDS: .. 2 by a yield (with a number)");
        SwitchRules x = Due.unit("value number { case 0 -> 0; case 1 -> -0; case 2 -> 999999999; case 3 -> -999999999;"
            + " case 4 -> { yield 0; } case 5 -> { yield - 1; }"
            + " default -> { if yield -999999999; else { yield 999999999; } } }");
        int[] yields = {0, 0, 999999999, -999999999, 0, -1, 999999999};
        for (int v = 0; v < yields.length; v++) {
            due.runs(x, v, 0, 2, yields[v]);
        }
        due.runs(x, 6, 1, 2, -999999999);
        due.runs(Due.unit("value number { default: add 1; if add 2; yield 3; }"), 0, 1, 2, 3, 1, 2);
    }

    private static void endsByAThrow(Due due) {
        due.by("It ENDS: .. 3 by a throw (with its number)");
        SwitchRules x = Due.unit("switch number { case 0: throw 0; case 1: throw 999999999; default: add 1; if throw 2; }");
        due.runs(x, 0, 0, 3, 0);
        due.runs(x, 1, 0, 3, 999999999);
        due.runs(x, 2, 1, 3, 2, 1);
        due.runs(x, 2, 0, 1, 0, 1);
        due.runs(Due.unit("value number { default -> throw 0; }"), 0, 0, 3, 0);
        due.runs(Due.unit("switch number { default -> throw 7; }"), 0, 0, 3, 7);
    }

    private static void withoutASelector(Due due) {
        due.by("Promise 8: A RUN without a selector: 4. (It ENDS: .. 4 at once, if there is no selector)");
        String[] units = {"switch number {}", "switch number { default: add 1; }", "value number { default -> 5; }",
            "switch text { case \"\" -> add 1; }", "enum e { k } value e { case k -> 1; }"};
        for (String unit : units) {
            SwitchRules x = Due.unit(unit);
            due.is("runNone() of " + unit, x.runNone(), 4);
            due.latest("runNone() of " + unit, x, 0);
            x.run(0, 0);
            due.is("runNone() again", x.runNone(), 4);
            due.latest("runNone() again", x, 0);
        }
    }

    private static void cameLater(Due due) {
        due.by("It ENDS: .. 5 at once, if a value has no arm for it (a constant that came later)");
        for (int n = 1; n <= 16; n++) {
            String names = Due.numbered(n, "k", "", ", ");
            SwitchRules x = Due.unit("enum e { " + names + " } value e { case " + names + ": add 1; yield 2; }");
            due.runs(x, n - 1, 0, 2, 2, 1);
            due.runs(x, n, 0, 5, 0);
            due.runs(x, Integer.MAX_VALUE, 0, 5, 0);
        }
        due.by("It begins .. else at the default (of a constant that came later, too)");
        SwitchRules y = Due.unit("enum e { k } value e { case k -> 1; default -> 2; }");
        due.runs(y, 1, 0, 2, 2);
        due.runs(y, Integer.MAX_VALUE, 0, 2, 2);
        SwitchRules z = Due.unit("enum e { k } switch e { case k -> throw 1; }");
        due.runs(z, 1, 0, 1, 0);
    }

    private static void selectorsOfNumbers(Due due) {
        due.by("Promise 7: The selector is v");
        SwitchRules x = Due.unit("value number { case 999999999 -> 1; case -999999999 -> 2; case 0 -> 3;"
            + " case -1 -> 4; case 1 -> 5; default -> 6; }");
        int[] selectors = {999999999, -999999999, 0, -1, 1, 1000000000, -1000000000, 999999998, -999999998,
            Integer.MAX_VALUE, Integer.MIN_VALUE, 2, -2};
        int[] yields = {1, 2, 3, 4, 5, 6, 6, 6, 6, 6, 6, 6, 6};
        for (int i = 0; i < selectors.length; i++) {
            due.runs(x, selectors[i], 0, 2, yields[i]);
        }
        due.by("Promise 7: The selector is v (THE TEXT is none of numbers)");
        Due.type(x, "1");
        due.runs(x, 0, 0, 2, 3);
    }

    private static void selectorsOfConstants(Due due) {
        due.by("Promise 7: of an enumeration the place of a constant; those that it has not came later");
        String names = Due.numbered(16, "k", "", ", ");
        StringBuilder arms = new StringBuilder();
        for (int i = 15; i >= 0; i--) {
            arms.append("case k").append(i).append(" -> ").append(100 + i).append("; ");
        }
        SwitchRules x = Due.unit("enum d { k15, k0 } enum e { " + names + " } value e { " + arms + "}");
        for (int i = 0; i < 16; i++) {
            due.runs(x, i, 0, 2, 100 + i);
        }
        due.runs(x, 16, 0, 5, 0);
    }

    private static void placesBelowZero(Due due) {
        due.by("Promise 7: -2 a place below 0");
        String[] units = {"enum e { k, l } value e { case k, l: add 7; yield 8; }",
            "enum e { k } switch e { default: add 7; throw 8; }",
            "enum e { k } switch e { case k: add 7; throw 8; }"};
        for (String unit : units) {
            SwitchRules x = Due.unit(unit);
            due.is("run(-1, 0) as the first run", x.run(-1, 0), -2);
            due.is("traced() behind it", x.traced(), -3);
            x.run(0, 0);
            due.latest("run(0, 0)", x, 8, 7);
            int[] below = {-1, -2, -3, -16, Integer.MIN_VALUE};
            for (int v : below) {
                due.is("run(" + v + ", -1)", x.run(v, -1), -2);
                due.latest("a refused run", x, 8, 7);
            }
        }
        due.by("Promise 7: -2 a place below 0 (of an enumeration alone)");
        due.runs(Due.unit("value number { case -1 -> 1; default -> 2; }"), -1, 0, 2, 1);
        due.runs(Due.unit("value number { case -1 -> 1; default -> 2; }"), Integer.MIN_VALUE, 0, 2, 2);
        due.runs(Due.unit("value text { case \"\" -> 1; default -> 2; }"), -1, 0, 2, 1);
        due.runs(Due.unit("value text { case \"\" -> 1; default -> 2; }"), Integer.MIN_VALUE, 0, 2, 1);
    }

    private static void selectorsOfTexts(Due due) {
        due.by("Promise 7: of texts it is THE TEXT (all of its octets ..)");
        String most = "abcdefgh";
        StringBuilder arms = new StringBuilder();
        for (int n = 0; n <= 8; n++) {
            arms.append("case \"").append(most.substring(0, n)).append("\" -> ").append(n).append("; ");
        }
        SwitchRules x = Due.unit("value text { " + arms + "default -> 99; }");
        due.runs(x, 3, 0, 2, 0);
        for (int n = 0; n <= 8; n++) {
            Due.type(x, most.substring(0, n));
            due.runs(x, 0, 0, 2, n);
            due.runs(x, Integer.MIN_VALUE, 0, 2, n);
        }
    }

    private static void textsThatAreNoLabels(Due due) {
        due.by("Promise 7: of texts it is THE TEXT (all of its octets: none is passed over, none is cut off)");
        String[] others = {" ", "a ", " a", "\"a\"", "\n", "abcdefgha", "aabcdefgh", "abcdefghabcdefgh", "bcdefgh", "A",
            "\0", "\0a", "a\0", "\0\0\0\0\0\0\0\0", "\0\0\0\0\0\0\0a", "\0abcdefgh",
            "\u00ff\u00ff\u00ff\u00ff\u00ff\u00ff\u00ff\u00ff",
            "\u00e1", "abcdefgi", Due.times(2992, "x") + "abcdefgh", "abcdefgh" + Due.times(2992, "\0"),
            Due.times(3000, "\0")};
        for (String other : others) {
            SwitchRules x = Due.unit("value text { case \"\" -> 1; case \"a\" -> 2;"
                + " case \"abcdefgh\" -> 3; default -> 4; }");
            Due.type(x, other);
            due.runs(x, 0, 0, 2, 4);
        }
    }

    private static void textsByTheirSigns(Due due) {
        due.by("It begins at the arm with the selector's label (of texts with one HASH, too)");
        SwitchRules x = Due.unit("value text { case \"Aa\" -> 1; case \"BB\" -> 2; case \"\" -> 3;"
            + " case \"bmgkAEs\" -> 4; default -> 5; }");
        String[] texts = {"Aa", "BB", "", "bmgkAEs", "C#"};
        for (int i = 0; i < texts.length; i++) {
            Due.type(x, texts[i]);
            due.runs(x, 0, 0, 2, i + 1);
        }
        due.is("hash() of C#", x.hash(), "Aa".hashCode());
    }

    private static void textStays(Due due) {
        due.by("Promise 7: THE TEXT (all of its octets, which stay)");
        SwitchRules x = Due.unit("value text { case \"ab\" -> 1; default -> 2; }");
        x.type('a', 1);
        due.runs(x, 0, 0, 2, 2);
        due.is("type behind run", x.type('b', 1), 2);
        due.runs(x, 0, 0, 2, 1);
        due.runs(x, 0, 0, 2, 1);
        due.is("type behind runs", x.type('c', 1), 3);
        due.runs(x, 0, 0, 2, 2);
        due.is("hash() behind runs", x.hash(), "abc".hashCode());
    }

    private static void noUnit(Due due) {
        due.by("Promises 7, 8: -3 (there is no unit)");
        SwitchRules x = new SwitchRules();
        int[] selectors = {0, 1, -1, Integer.MIN_VALUE, Integer.MAX_VALUE};
        for (int v : selectors) {
            due.is("run(" + v + ", 0) before", x.run(v, 0), -3);
        }
        due.is("runNone() before", x.runNone(), -3);
        due.is("traced() behind refused runs", x.traced(), -3);
        x = Due.unit("enum e { k } switch e { case k: add 1; }");
        x.run(0, 0);
        x.read();
        due.is("run(-1, 0) behind a fault", x.run(-1, 0), -3);
        due.is("run(0, 0) behind a fault", x.run(0, 0), -3);
        due.is("runNone() behind a fault", x.runNone(), -3);
    }

    private static void tracedSinceRead(Due due) {
        due.by("Promise 9: How many numbers THE TRACE of the latest RUN has. -3 there was none since read().");
        SwitchRules x = new SwitchRules();
        due.is("traced() of a new object", x.traced(), -3);
        String unit = "switch number { case 1: add 1; add 2; case 2: add 3; }";
        Due.type(x, unit);
        x.read();
        due.is("traced() behind read()", x.traced(), -3);
        x.run(3, 0);
        due.is("traced() of none", x.traced(), 0);
        x.run(1, 0);
        due.is("traced() of 3", x.traced(), 3);
        x.run(2, 0);
        due.is("traced() of 1", x.traced(), 1);
        Due.type(x, unit);
        due.is("traced() behind type()", x.traced(), 1);
        x.read();
        due.is("traced() behind the next read()", x.traced(), -3);
        x.runNone();
        due.is("traced() behind runNone()", x.traced(), 0);
        x.read();
        due.is("traced() behind a read() with a fault", x.traced(), -3);
    }

    private static void numbersOfTheTrace(Due due) {
        due.by("Promise 10: Number i of it. 0 where there is none.");
        SwitchRules x = new SwitchRules();
        int[] none = {-1, 0, 1, 119, 120, Integer.MAX_VALUE, Integer.MIN_VALUE};
        for (int i : none) {
            due.is("trace(" + i + ") of a new object", x.trace(i), 0);
        }
        Due.type(x, "switch number { case 1: add 5; add 6; case 2: add 7; }");
        x.read();
        due.is("trace(0) before a run", x.trace(0), 0);
        x.run(1, 0);
        int[] all = {5, 6, 7, 0, 0};
        for (int i = 0; i < all.length; i++) {
            due.is("trace(" + i + ")", x.trace(i), all[i]);
        }
        x.run(2, 0);
        due.is("trace(0) of the latest", x.trace(0), 7);
        due.is("trace(1), which the run before had", x.trace(1), 0);
        due.is("trace(2), which the run before had", x.trace(2), 0);
        for (int i : none) {
            due.is("trace(" + i + ")", x.trace(i), i == 0 ? 7 : 0);
        }
        x.runNone();
        due.is("trace(0) behind runNone()", x.trace(0), 0);
    }

    private static void fullTrace(Due due) {
        due.by("Promise 9: How many numbers THE TRACE .. has (120 at the most, as there are stmts)");
        SwitchRules x = Due.unit("switch number { default: " + Due.numbered(120, "add ", ";", "") + " }");
        x.run(0, 0);
        due.is("traced()", x.traced(), 120);
        for (int i = 0; i < 120; i++) {
            due.is("trace(" + i + ")", x.trace(i), i);
        }
        due.is("trace(120)", x.trace(120), 0);
        due.is("trace(-1)", x.trace(-1), 0);
    }

    private static void valueElse(Due due) {
        due.by("Promise 11: What the latest RUN yielded, threw; 0 else, and before.");
        SwitchRules x = new SwitchRules();
        due.is("value() of a new object", x.value(), 0);
        Due.type(x, "enum e { k, l, m } value e { case k -> 5; case l -> throw 6; case m -> -7; }");
        x.read();
        due.is("value() before a run", x.value(), 0);
        int[] places = {0, 3, 1, 3, 2, 3};
        int[] values = {5, 0, 6, 0, -7, 0};
        for (int i = 0; i < places.length; i++) {
            x.run(places[i], 0);
            due.is("value() behind run(" + places[i] + ", 0)", x.value(), values[i]);
        }
        x.run(0, 0);
        x.run(-1, 0);
        due.is("value() behind a refused run", x.value(), 5);
        x.runNone();
        due.is("value() behind runNone()", x.value(), 0);
        SwitchRules y = Due.unit("switch number { case 1: throw 4; case 2: break; case 3: }");
        int[] ends = {4, 0, 0, 0};
        for (int v = 1; v <= 4; v++) {
            y.run(1, 0);
            y.run(v, 0);
            due.is("value() behind run(" + v + ", 0) of a switch", y.value(), ends[v - 1]);
        }
        y.run(1, 0);
        y.read();
        due.is("value() behind read()", y.value(), 0);
        due.is("trace(0) behind read()", y.trace(0), 0);
    }
}
