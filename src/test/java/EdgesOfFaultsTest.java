/** The edges of FAULTS 3 to 5 and 8, which of several is told, and promises 3 and 4. */
public final class EdgesOfFaultsTest {
    public static void main(String[] args) {
        Due due = new Due();
        numbersTwice(due);
        textsTwice(due);
        constantsTwice(due);
        firstTokenOfALabel(due);
        secondDefault(due);
        enumerationTwice(due);
        constantOfItTwice(due);
        oldBehindArrows(due);
        arrowsBehindOld(due);
        labelsOfOtherSorts(due);
        minusOfOtherSorts(due);
        noSuchEnumeration(due);
        breakInAValue(due);
        yieldInASwitch(due);
        firstInTheText(due);
        leastOfOneToken(due);
        lessTenLess(due);
        unitNoMore(due);
        placeOfTheLatest(due);
        due.end();
    }

    private static void numbersTwice(Due due) {
        due.by("FAULTS: 3 a label that was there already (.. numbers by their value)");
        due.faults("switch number { case 0, ^0: }", 3);
        due.faults("switch number { case 0, ^-0: }", 3);
        due.faults("switch number { case -0, ^0: }", 3);
        due.faults("switch number { case -0, ^-0: }", 3);
        due.faults("switch number { case 0, ^000000000: }", 3);
        due.faults("switch number { case 1, ^000000001: }", 3);
        due.faults("switch number { case -1: case ^-01: }", 3);
        due.faults("switch number { case 999999999: case 1: case ^999999999: }", 3);
        due.faults("switch number { case -999999999: case 1: case ^-999999999: }", 3);
        due.faults("value number { default -> 1; case 1, 2, 3 -> 2; case 4, ^3 -> 3; }", 3);
        due.reads("switch number { case 999999999, -999999999, 1, -1, 0, 10, 100: }", 1);
    }

    private static void textsTwice(Due due) {
        due.by("FAULTS: 3 a label that was there already (.. texts by their signs)");
        due.faults("switch text { case \"\", ^\"\": }", 3);
        due.faults("switch text { case \"abcdefgh\": case \"a\": case ^\"abcdefgh\": }", 3);
        due.faults("switch text { case \"a\" -> break; case \"b\", ^\"a\" -> break; }", 3);
        due.reads("switch text { case \"Aa\", \"BB\": case \"AaAa\", \"BBBB\", \"AaBB\", \"BBAa\": }", 2);
        due.reads("switch text { case \"\", \"bmgkAEs\": }", 1);
        due.reads("switch text { case \"a\", \"A\", \"aa\", \"0\", \"00\", \"1\", \"01\": }", 1);
        due.reads("switch text { case \"abcdefgh\", \"abcdefgi\", \"bbcdefgh\", \"abcdefg\", \"bcdefgh\": }", 1);
    }

    private static void constantsTwice(Due due) {
        due.by("FAULTS: 3 a label that was there already (of constants)");
        due.faults("enum a { b, c } switch a { case b, ^b: }", 3);
        due.faults("enum a { b, c } switch a { case c: case b: case ^c: }", 3);
        due.faults("enum a { b } value a { case b -> 1; case ^b -> 2; }", 3);
        due.reads("enum a { b, c } switch a { case c, b: }", 1);
    }

    private static void firstTokenOfALabel(Due due) {
        due.by("FAULTS: 3 a label that was there already (its first token ..)");
        due.faults("switch number { case -5: case ^- 5: }", 3);
        due.faults("switch number { case -5: case ^-\n\t 05: }", 3);
        due.faults("switch number { case 0: case ^- \r 0: }", 3);
    }

    private static void secondDefault(Due due) {
        due.by("FAULTS: 3 .. a second default");
        due.faults("switch number { default: ^default: }", 3);
        due.faults("switch number { case 1: default: ^default: }", 3);
        due.faults("switch number { case 1: case 2: default: case 3: ^default: }", 3);
        due.faults("value number { case 1 -> 1; default -> 1; ^default -> 2; }", 3);
        due.faults("switch number { default: ^default", 3);
        due.reads("switch number { case 1: case 2: default: }", 3);
    }

    private static void enumerationTwice(Due due) {
        due.by("FAULTS: 3 .. an enumeration .. that is there already");
        due.faults("enum a { b } enum ^a { c } switch a {}", 3);
        due.faults("enum a { b } enum c { b } enum ^c { d } switch a {}", 3);
        due.faults("enum a { b } enum c { b } enum d { b } enum ^a { b } switch a {}", 3);
        due.faults("enum a { b } enum c { b } enum d { b } enum ^d { b } switch a {}", 3);
        due.reads("enum a { a } enum b { a } switch a {}", 0);
        due.reads("enum a { b } enum b { a } switch b {}", 0);
    }

    private static void constantOfItTwice(Due due) {
        due.by("FAULTS: 3 .. an enumeration or constant of it that is there already");
        due.faults("enum a { b, ^b } switch a {}", 3);
        due.faults("enum a { b, c, d, ^c } switch a {}", 3);
        due.faults("enum a { b, c, d, ^d } switch a {}", 3);
        due.faults("enum a { b } enum c { b, d, ^b } switch a {}", 3);
        due.reads("enum a { b, c } enum d { b, c } enum e { c, b } switch e { case b: }", 1);
    }

    private static void oldBehindArrows(Due due) {
        due.by("FAULTS: 4 a : where an arm with -> was before");
        due.faults("switch number { case 1 -> break; case 2^: }", 4);
        due.faults("switch number { case 1 -> {} default^: }", 4);
        due.faults("switch number { default -> {} case 1 -> {} case 2, 3 ^:", 4);
        due.faults("value number { default -> 1; case 1 ^: yield 1; }", 4);
        due.reads("switch number { case 1 -> break; case 2 -> break; default -> break; }", 3);
    }

    private static void arrowsBehindOld(Due due) {
        due.by("FAULTS: 4 .. or the other way round");
        due.faults("switch number { case 1: case 2 ^-> break; }", 4);
        due.faults("switch number { default: case 2 ^->", 4);
        due.faults("switch number { case 1: break; case 2: default ^-> {} }", 4);
        due.faults("value number { default: yield 1; case 1 ^-> 1; }", 4);
        due.reads("switch number { case 1: case 2: default: }", 3);
    }

    private static void labelsOfOtherSorts(Due due) {
        due.by("FAULTS: 5 a label that is not of the selector's sort (number, text, a constant of its enumeration)");
        String[] arms = {"case ^", "case %, ^", "case %: case ^", "default: case ^"};
        for (String arm : arms) {
            String number = "enum e { k } switch number { " + arm.replace("%", "1");
            due.faults(number + "\"\": }", 5);
            due.faults(number + "\"1\": }", 5);
            due.faults(number + "k: }", 5);
            due.faults(number + "x: }", 5);
            String text = "enum e { k } switch text { " + arm.replace("%", "\"1\"");
            due.faults(text + "0: }", 5);
            due.faults(text + "1: }", 5);
            due.faults(text + "k: }", 5);
            due.faults(text + "x: }", 5);
            String constant = "enum d { j } enum e { k, l } enum f { m } switch e { " + arm.replace("%", "l");
            due.faults(constant + "0: }", 5);
            due.faults(constant + "\"k\": }", 5);
            due.faults(constant + "e: }", 5);
            due.faults(constant + "j: }", 5);
            due.faults(constant + "m: }", 5);
            due.faults(constant + "k1: }", 5);
        }
    }

    private static void minusOfOtherSorts(Due due) {
        due.by("FAULTS: 5 a label that is not of the selector's sort (one that begins with -)");
        String[] behind = {"1", "0", "a", "k", "\"a\"", "-", "->", ":", "}", "", "@", "1234567890"};
        for (String token : behind) {
            due.faults("switch text { case ^-" + token, 5);
            due.faults("enum e { k } switch e { case ^- " + token, 5);
            due.faults("enum e { k } value e { case k, ^- " + token, 5);
        }
    }

    private static void noSuchEnumeration(Due due) {
        due.by("FAULTS: 5 .. an enumeration that there is not");
        due.faults("switch ^a {}", 5);
        due.faults("value ^a {}", 5);
        due.faults("enum a { b } switch ^b {}", 5);
        due.faults("enum a { b } switch ^aa {}", 5);
        due.faults("enum aa { b } switch ^a {}", 5);
        due.faults("switch ^a", 5);
        due.reads("enum a { b } enum c { d } enum e { f } enum g { h } switch g { case h: }", 1);
        due.reads("enum a { b } enum c { d } enum e { f } enum g { h } switch a { case b: }", 1);
    }

    private static void breakInAValue(Due due) {
        due.by("FAULTS: 8 a break in a value");
        due.faults("value number { default: ^break; }", 8);
        due.faults("value number { default: { { ^break; } } }", 8);
        due.faults("value number { default: if yield 1; else ^break; }", 8);
        due.faults("value number { default -> { ^break; } }", 8);
        due.faults("value number { default: ^break @", 8);
        due.reads("switch number { default: break; }", 1);
    }

    private static void yieldInASwitch(Due due) {
        due.by("FAULTS: 8 .. a yield in a switch");
        due.faults("switch number { default: ^yield 1; }", 8);
        due.faults("switch number { default: { { ^yield -1; } } }", 8);
        due.faults("switch number { default: if break; else ^yield 1; }", 8);
        due.faults("switch number { default -> { ^yield 1; } }", 8);
        due.faults("switch number { default: ^yield @", 8);
        due.reads("value number { default: yield 1; }", 1);
    }

    private static void firstInTheText(Due due) {
        due.by("FAULTS, the first in THE TEXT");
        due.faults("switch number { case 1: ^yield 1; @", 8);
        due.faults("switch number { case 1, ^1, \"a\", @", 3);
        due.faults("switch number { case ^\"a\", 1, 1: }", 5);
        due.faults("switch number { case 1: break; ^add @; }", 9);
        due.faults("switch number { case 1: let ^1; let a; let a; }", 2);
        due.faults("switch number { case 1: let a; let ^a; use b; }", 6);
        due.faults("switch number { case 1: use ^b; let a; let a; }", 7);
        due.faults("value number { case 1: ^break; }", 8);
        due.faults("value number { case 1 -> { ^} case 1 -> 1; }", 10);
        due.faults("value number { case 1 -> 1; ^} }", 11);
        due.faults("value number { case 1: yield 1; ^}", 11);
        due.faults("enum a { b, ^b } enum a { c } switch d {}", 3);
    }

    private static void leastOfOneToken(Due due) {
        due.by("FAULTS .. of one token the least");
        due.faults("switch number { case 1 -> ^@", 1);
        due.faults("value number { default -> ^break; }", 2);
        due.faults("switch number { default -> ^yield 1; }", 2);
        due.faults("switch number { case 1: break; ^a = 1; }", 7);
        due.faults("switch number { case 1: break; ^yield 1; }", 8);
        due.faults("value number { case 1: yield 1; ^break; }", 8);
        due.faults("switch number { case 1: break; ^else add 1; }", 2);
        due.faults("switch number { case 1: break; ^@", 1);
        due.faults("value number { case 1: add 1; ^}", 10);
        due.faults("value number { case 1: ^}", 10);
        due.faults("enum a { b, c } value a { case b: ^}", 10);
    }

    private static void lessTenLess(Due due) {
        due.by("Promise 3: -10 less a FAULT");
        String[] faulty = {"@", "", "switch number { case 1, 1", "switch number { case 1: case 2 ->", "switch a",
            "switch number { case 1: let a; let a", "switch number { case 1: use a", "switch number { case 1: yield",
            "switch number { case 1: break; add", "value number { default: }", "value number { }",
            "switch number { case 1: " + Due.times(12, "{")};
        for (int i = 0; i < faulty.length; i++) {
            SwitchRules x = new SwitchRules();
            Due.type(x, faulty[i]);
            due.is("read() of " + faulty[i], x.read(), -11 - i);
        }
    }

    private static void unitNoMore(Due due) {
        due.by("Promise 3: -10 less a FAULT: the unit before is no more, either.");
        SwitchRules x = Due.unit("value number { case 1, 2, 3: add 4; default: yield 5; }");
        x.run(1, 0);
        Due.type(x, "value number { case 1, 2, 3: add 4; default: yield 5; } @");
        due.is("read() with a fault at the very end", x.read(), -11);
        String bare = Due.answers(new SwitchRules());
        due.same("answers", Due.answers(x), bare.replace("place -1", "place 56"));
        due.is("run(1, 0)", x.run(1, 0), -3);
        due.is("runNone()", x.runNone(), -3);
        due.is("read() of nothing", x.read(), -12);
        due.is("told(0)", x.told(0), -3);
    }

    private static void placeOfTheLatest(Due due) {
        due.by("Promise 4: The place of the FAULT of the latest read(); -1 if it had none, and before.");
        SwitchRules x = new SwitchRules();
        due.is("place() before", x.place(), -1);
        Due.type(x, "@");
        due.is("place() before read()", x.place(), -1);
        x.read();
        due.is("place() of a fault at 0", x.place(), 0);
        Due.type(x, "switch number {}");
        due.is("place() before the next read()", x.place(), 0);
        x.read();
        due.is("place() of none", x.place(), -1);
        x.run(0, 0);
        x.type('@', 9);
        due.is("place() behind other calls", x.place(), -1);
        Due.type(x, "switch number {} @");
        x.read();
        due.is("place() of a fault", x.place(), 17);
        x.run(0, 0);
        x.told(8);
        due.is("place() behind refused calls", x.place(), 17);
        x.read();
        due.is("place() of no text", x.place(), 0);
    }
}
