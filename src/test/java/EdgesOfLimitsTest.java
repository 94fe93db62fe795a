import java.util.Arrays;

/** The edges of FAULT 12: each limit full, passed by one, and with a lesser fault at the same token. */
public final class EdgesOfLimitsTest {
    public static void main(String[] args) {
        Due due = new Due();
        enumerations(due);
        constants(due);
        labels(due);
        labelsOfMinus(due);
        arms(due);
        stmts(due);
        bodies(due);
        stmtsInBodies(due);
        depthOfBlocks(due);
        depthOfIfs(due);
        depthOfBodies(due);
        depthIsLeft(due);
        names(due);
        namesAreLeft(due);
        allFull(due);
        longestCode(due);
        againInTheNextUnit(due);
        due.end();
    }

    private static String enumerations(int n) {
        return Due.numbered(n, "enum a", " { x }", " ") + " ";
    }

    private static void enumerations(Due due) {
        due.by("FAULTS: 12 too much: a 5th enumeration");
        due.reads(enumerations(3) + "switch a2 {}", 0);
        for (int i = 0; i < 4; i++) {
            due.reads(enumerations(4) + "switch a" + i + " { case x: }", 1);
            due.faults(enumerations(4) + "enum ^a" + i + " { x } switch a0 {}", 3);
        }
        due.faults(enumerations(4) + "enum ^b { x } switch a0 {}", 12);
        due.faults(enumerations(4) + "enum ^b @", 12);
        due.faults(enumerations(4) + "enum ^b", 12);
    }

    private static void constants(Due due) {
        due.by("FAULTS: 12 too much: .. a 17th constant of one");
        String most = Due.numbered(16, "c", "", ", ");
        due.reads("enum a { " + Due.numbered(15, "c", "", ", ") + " } switch a { case c14: }", 1);
        due.reads("enum a { " + most + " } switch a { case c15: }", 1);
        due.faults("enum a { " + most + ", ^c16 } switch a {}", 12);
        due.faults("enum a { " + most + ", ^c16", 12);
        due.faults("enum a { " + most + ", ^c0 } switch a {}", 3);
        due.faults("enum a { " + most + ", ^c15 } switch a {}", 3);
        due.faults("enum a { " + most + ", ^} switch a {}", 2);
        due.faults("enum a { " + most + ", ^@ } switch a {}", 1);
        String four = Due.numbered(4, "enum a", " { " + most + " }", " ");
        due.reads(four + " switch a3 { case " + most + ": }", 1);
        due.faults(four.substring(0, four.length() - 1) + ", ^c16 } switch a3 {}", 12);
    }

    private static void labels(Due due) {
        due.by("FAULTS: 12 too much: .. a 33rd label");
        String most = Due.numbered(32, "", "", ", ");
        due.reads("switch number { case " + Due.numbered(31, "", "", ", ") + ": }", 1);
        due.reads("switch number { case " + most + ": }", 1);
        due.reads("switch number { default: case " + most + ": }", 2);
        due.faults("switch number { case " + most + ", ^32: }", 12);
        due.faults("switch number { case " + most + ": default: case ^32: }", 12);
        due.faults("switch number { case " + most + " -> break; case ^32 -> break; }", 12);
        due.faults("switch number { case " + most + ", ^0: }", 3);
        due.faults("switch number { case " + most + ", ^31: }", 3);
        due.faults("switch number { case " + most + ", ^a: }", 5);
        due.faults("switch number { case " + most + ", ^\"\": }", 5);
        due.faults("switch number { case " + most + ", ^: }", 2);
        due.faults("switch number { case " + most + ", ^@: }", 1);
        due.faults("switch number { case " + most + ": case ^32 @", 12);
        String texts = Due.numbered(32, "\"", "\"", ", ");
        due.reads("switch text { case " + texts + ": }", 1);
        due.faults("switch text { case " + texts + ", ^\"32\": }", 12);
        due.faults("switch text { case " + texts + ", ^\"31\": }", 3);
        due.faults("switch text { case " + texts + ", ^32: }", 5);
    }

    private static void labelsOfMinus(Due due) {
        due.by("FAULTS: 12 too much: .. a 33rd label (at its -)");
        String most = Due.numbered(32, "-", "", ", ");
        due.reads("switch number { case " + most + ": }", 1);
        due.faults("switch number { case " + most + ", ^-32: }", 12);
        due.faults("switch number { case " + most + ", ^- 32: }", 12);
        due.faults("switch number { case " + most + ", ^- 31: }", 3);
        due.faults("switch number { case " + most + ", ^1: }", 12);
        due.faults("switch number { case " + most + ", ^0: }", 3);
    }

    private static void arms(Due due) {
        due.by("FAULTS: 12 too much: .. a 21st arm (its word)");
        String old = Due.numbered(20, "case ", ": ", "");
        String arrows = Due.numbered(20, "case ", " -> break; ", "");
        due.reads("switch number { " + Due.numbered(19, "case ", ": ", "") + "}", 19);
        due.reads("switch number { " + old + "}", 20);
        due.reads("switch number { " + arrows + "}", 20);
        due.reads("switch number { " + Due.numbered(19, "case ", ": ", "") + "default: }", 20);
        due.faults("switch number { " + old + "^case 20: }", 12);
        due.faults("switch number { " + old + "^default: }", 12);
        due.faults("switch number { " + old + "^case 0: }", 12);
        due.faults("switch number { " + old + "^case", 12);
        due.faults("switch number { " + arrows + "^case 20: }", 12);
        due.faults("switch number { " + arrows + "^default -> break; }", 12);
        due.faults("switch number { default: " + Due.numbered(19, "case ", ": ", "") + "^case 20: }", 12);
        due.faults("switch number { default: " + Due.numbered(19, "case ", ": ", "") + "^default: }", 3);
        due.faults("switch number { " + old + "^; }", 2);
        due.faults("value number { " + Due.numbered(20, "case ", " -> 1; ", "") + "^}", 11);
    }

    private static void stmts(Due due) {
        due.by("FAULTS: 12 too much: .. a 121st stmt (its first token ..)");
        String most = Due.times(120, "add 1;");
        due.is("told(4) of 120", Due.unit("switch number { case 1: " + most + "}").told(4), 120);
        String[] next = {"add 1;", "{ }", "let a;", "if add 1;", "use a;", "break;", "throw 1;", "add @", "add"};
        for (String stmt : next) {
            due.reads("switch number { case 1: " + Due.times(119, "add 1;") + "break; case 2: }", 2);
            due.faults("switch number { case 1: " + most + "^" + stmt, 12);
            due.faults("switch number { case 1: " + most + "case 2: ^" + stmt, 12);
        }
        due.faults("switch number { case 1: let a; " + Due.times(119, "add 1;") + "^a = 1; }", 12);
        due.faults("switch number { case 1: " + most + "^a = 1; }", 7);
        due.faults("switch number { case 1: " + most + "^yield 1; }", 8);
        due.faults("switch number { case 1: " + Due.times(119, "add 1;") + "break; ^add 1; }", 9);
        due.faults("switch number { case 1: " + most + "^else add 1; }", 2);
        due.faults("switch number { case 1: " + most + "^@", 1);
        due.faults("value number { default: " + most + "^yield 1; }", 12);
        due.faults("value number { default: " + most + "^}", 10);
        due.faults("value number { default: " + most + "^break; }", 8);
        due.faults("switch number { case 1: " + Due.times(119, "{ }") + "{ ^{ } }", 12);
        due.faults("switch number { case 1: " + Due.times(119, "{ }") + "if ^{ } }", 12);
        due.faults("switch number { case 1: " + Due.times(118, "{ }") + "if { } else ^{ } }", 12);
        due.reads("switch number { case 1: " + Due.times(117, "{ }") + "if { } else { } }", 1);
    }

    private static void bodies(Due due) {
        due.by("FAULTS: 12 too much: .. a 121st stmt (.. a body is one)");
        String most = "case 0 -> {" + Due.times(119, "add 1;") + "} ";
        String[] bodies = {"add 1;", "{ }", "break;", "throw 1;", "use a;"};
        for (String body : bodies) {
            due.faults("switch number { " + most + "case 1 -> ^" + body + " }", 12);
        }
        due.faults("switch number { " + most + "case 1 -> ^a = 1; }", 7);
        due.faults("switch number { " + most + "case 1 -> ^if add 1; }", 2);
        String ofValue = "case 0 -> {" + Due.times(118, "add 1;") + "yield 1; } ";
        String[] ofValues = {"1;", "-1;", "- 1;", "throw 1;", "{ yield 1; }", "-@", "-"};
        for (String body : ofValues) {
            due.faults("value number { " + ofValue + "default -> ^" + body + " }", 12);
        }
        due.faults("value number { " + ofValue + "default -> ^add 1; }", 2);
        String lessOne = "case 0 -> {" + Due.times(117, "add 1;") + "yield 1; } ";
        String[] ofOne = {"1;", "-1;", "throw 1;"};
        for (String body : ofOne) {
            SwitchRules x = Due.unit("value number { " + lessOne + "default -> " + body + " }");
            due.is("told(4) of 119 and " + body, x.told(4), 120);
        }
    }

    private static void stmtsInBodies(Due due) {
        due.by("FAULTS: 12 too much: .. a 121st stmt (.. a body is one, with what is in its block)");
        SwitchRules x = Due.unit("switch number { case 1 -> { } case 2 -> { add 1; } case 3 -> add 1; }");
        due.is("told(4)", x.told(4), 4);
        due.reads("switch number { case 1 -> {" + Due.times(119, "add 1;") + "} }", 1);
        due.faults("switch number { case 1 -> {" + Due.times(119, "add 1;") + "^add 1; } }", 12);
        due.faults("switch number { case 1 -> {" + Due.times(100, "add 1;") + "} case 2 -> {"
            + Due.times(18, "add 1;") + "^add 1; } }", 12);
        due.reads("switch number { case 1 -> {" + Due.times(100, "add 1;") + "} case 2 -> {"
            + Due.times(18, "add 1;") + "} }", 2);
    }

    private static void depthOfBlocks(Due due) {
        due.by("FAULTS: 12 too much: .. a stmt within more than 10 others (.. blocks)");
        due.reads("switch number { case 1: " + Due.times(10, "{") + Due.times(10, "}") + " }", 1);
        due.reads("switch number { case 1: " + Due.times(11, "{") + Due.times(11, "}") + " }", 1);
        due.reads("switch number { case 1: " + Due.times(10, "{") + "add 1;" + Due.times(10, "}") + " }", 1);
        String[] next = {"add 1;", "{ }", "let a;", "if add 1;", "use a;", "break;", "throw 1;"};
        for (String stmt : next) {
            due.faults("switch number { case 1: " + Due.times(11, "{") + "^" + stmt, 12);
        }
        due.faults("switch number { case 1: " + Due.times(11, "{") + "^a = 1; }", 7);
        due.faults("switch number { case 1: " + Due.times(11, "{") + "^yield 1; }", 8);
        due.faults("switch number { case 1: " + Due.times(11, "{") + "^else", 2);
        due.faults("switch number { case 1: " + Due.times(11, "{") + "^@", 1);
    }

    private static void depthOfIfs(Due due) {
        due.by("FAULTS: 12 too much: .. a stmt within more than 10 others (ifs ..)");
        due.reads("switch number { case 1: " + Due.times(10, "if ") + "add 1; }", 1);
        due.faults("switch number { case 1: " + Due.times(11, "if ") + "^add 1; }", 12);
        due.reads("switch number { case 1: " + Due.times(10, "if ") + "{ } }", 1);
        due.faults("switch number { case 1: " + Due.times(10, "if ") + "{ ^{ } } }", 12);
        due.reads("switch number { case 1: " + Due.times(10, "if ") + "add 1;" + Due.times(10, " else add 2;") + " }", 1);
        due.reads("switch number { case 1: " + Due.times(10, "if add 1; else ") + "add 1; }", 1);
        due.faults("switch number { case 1: " + Due.times(10, "if add 1; else ") + "if ^add 1; }", 12);
        due.faults("switch number { case 1: " + Due.times(10, "if add 1; else ") + "{ ^add 1; } }", 12);
        due.reads("switch number { case 1: " + Due.times(5, "if { ") + "add 1;" + Due.times(5, " }") + " }", 1);
        due.faults("switch number { case 1: " + Due.times(5, "if { ") + "if ^add 1; }", 12);
        due.faults("switch number { case 1: " + Due.times(5, "if { ") + "{ ^add 1; } }", 12);
    }

    private static void depthOfBodies(Due due) {
        due.by("FAULTS: 12 too much: .. a stmt within more than 10 others (a body is one)");
        due.reads("switch number { case 1 -> " + Due.times(11, "{") + Due.times(11, "}") + " }", 1);
        due.faults("switch number { case 1 -> " + Due.times(11, "{") + "^{" + Due.times(12, "}") + " }", 12);
        due.reads("switch number { case 1 -> { " + Due.times(9, "if ") + "add 1; } }", 1);
        due.faults("switch number { case 1 -> { " + Due.times(10, "if ") + "^add 1; } }", 12);
        due.faults("value number { default -> { " + Due.times(10, "if ") + "^yield 1; } }", 12);
    }

    private static void depthIsLeft(Due due) {
        due.by("FAULTS: 12 too much: .. a stmt within more than 10 others (those that have ended are none)");
        String deep = Due.times(11, "{") + Due.times(11, "}");
        due.reads("switch number { case 1: " + deep + deep + " case 2: " + deep + " }", 2);
        due.reads("switch number { case 1: " + Due.times(30, "{ } ") + Due.times(30, "if { } ") + " }", 1);
        due.reads("switch number { case 1 -> " + deep + " case 2 -> " + deep + " }", 2);
    }

    private static void names(Due due) {
        due.by("FAULTS: 12 too much: .. a NAME that is the 21st in SCOPE");
        String most = Due.numbered(20, "let a", ";", " ");
        due.reads("switch number { case 1: " + Due.numbered(19, "let a", ";", " ") + " let b = 1; use b; }", 1);
        SwitchRules x = Due.unit("switch number { case 1: " + Due.numbered(20, "let a", " = 7;", " ")
            + " a19 = 8; use a19; use a0; }");
        due.runs(x, 1, 0, 1, 0, 8, 7);
        due.faults("switch number { case 1: " + most + " let ^b; }", 12);
        due.faults("switch number { case 1: " + most + " let ^b = 1; }", 12);
        due.faults("switch number { case 1: " + most + " { { let ^b; } } }", 12);
        due.faults("switch number { case 1: " + most + " if let ^b; }", 12);
        due.faults("switch number { case 1: " + most + " case 2: let ^b; }", 12);
        due.faults("switch number { case 1: " + most + " let ^a0; }", 6);
        due.faults("switch number { case 1: " + most + " let ^a19; }", 6);
        due.faults("switch number { case 1: " + most + " let ^1; }", 2);
        due.faults("switch number { case 1: " + most + " let ^@; }", 1);
        due.faults("switch number { case 1 -> { " + most + " let ^b; } }", 12);
    }

    private static void namesAreLeft(Due due) {
        due.by("FAULTS: 12 too much: .. a NAME that is the 21st in SCOPE (those whose SCOPE has ended are none)");
        String nineteen = Due.numbered(19, "let a", ";", " ");
        due.reads("switch number { case 1: let b; { " + nineteen + " } { " + nineteen + " } " + nineteen + " }", 1);
        due.faults("switch number { case 1: let b; { " + nineteen + " } " + nineteen + " let ^c; }", 12);
        due.reads("switch number { case 1 -> { let b; " + nineteen + " } case 2 -> { let b; " + nineteen + " } }", 2);
    }

    /** 14 labels in the first arm, 18 in arms of their own, and a default: 20 arms; 20 lets, 10 blocks, a use, 89 adds. */
    private static String full(String lastLabel, String inTheDeep, String atTheEnd) {
        return enumerations(4) + "switch number{case " + Due.numbered(13, "", "", ",") + "," + lastLabel + ":"
            + Due.numbered(20, "let a", "=1;", "") + Due.times(10, "{") + inTheDeep + Due.times(10, "}")
            + Due.numbered(18, "case 9", ":", "") + "default:" + Due.times(89, "add 5;") + atTheEnd + "}";
    }

    private static void allFull(Due due) {
        due.by("FAULTS: 12 too much (nothing in a unit in which all is full)");
        SwitchRules x = new SwitchRules();
        Due.type(x, full("-13", "use a19;", ""));
        due.is("read() of a full unit", x.read(), 20);
        int[] told = {0, 0, 20, 32, 120, 19, 1, 0};
        for (int what = 0; what < 8; what++) {
            due.is("told(" + what + ") of a full unit", x.told(what), told[what]);
        }
        int[] trace = new int[90];
        Arrays.fill(trace, 5);
        trace[0] = 1;
        due.runs(x, -13, 0, 1, 0, trace);
        due.faults(full("13,14", "use a19;", "").replace("917", "^917"), 12);
        due.faults(full("13", "use a19;", "^add 5;"), 12);
        due.faults(full("13", "let ^a20;", ""), 12);
        due.faults(full("13", "{^{}}", ""), 12);
        due.faults(full("13", "use a19;", "^case 8:"), 12);
    }

    private static void longestCode(Due due) {
        due.by("FAULTS: 12 too much: .. a 121st stmt (120 run, however they are joined by ifs)");
        StringBuilder all = new StringBuilder();
        for (int i = 0; i < 40; i++) {
            all.append("if add ").append(i).append("; else add ").append(100 + i).append(';');
        }
        SwitchRules x = Due.unit("switch number { default: " + all + "}");
        due.is("told(4) of 40 ifs", x.told(4), 120);
        int[] first = new int[40];
        int[] second = new int[40];
        int[] mixed = new int[40];
        for (int i = 0; i < 40; i++) {
            first[i] = i < 32 ? i : 100 + i;
            second[i] = 100 + i;
            mixed[i] = i < 32 && i % 2 == 0 ? i : 100 + i;
        }
        due.runs(x, 0, -1, 1, 0, first);
        due.runs(x, 0, 0, 1, 0, second);
        due.runs(x, 0, 0x55555555, 1, 0, mixed);
        String deep = Due.times(10, "if ") + "add 10;" + Due.numbered(10, " else add ", ";", "") + " ";
        SwitchRules y = Due.unit("switch number { default: " + Due.times(5, deep) + "}");
        due.is("told(4) of ifs in ifs", y.told(4), 105);
        due.runs(y, 0, 0, 1, 0, 9, 9, 9, 9, 9);
        due.runs(y, 0, 0b1111111111, 1, 0, 10, 9, 9, 9, 9);
        due.runs(y, 0, 0b0_01_011_0111_01111, 1, 0, 5, 6, 7, 8, 9);
        SwitchRules z = Due.unit("value number { " + Due.numbered(19, "case ", " -> { if yield 1; else throw 2; } ", "")
            + "default -> { if if yield 3; else yield 4; else throw 5; } }");
        due.is("told(4) of arrows", z.told(4), 82);
        due.runs(z, 18, 1, 2, 1);
        due.runs(z, 18, 0, 3, 2);
        due.runs(z, 19, 3, 2, 3);
        due.runs(z, 19, 1, 2, 4);
        due.runs(z, 19, 0, 3, 5);
    }

    private static void againInTheNextUnit(Due due) {
        due.by("Promise 3: THE TEXT .. is read (anew: what was full before is empty)");
        SwitchRules x = new SwitchRules();
        String unit = "enum a{" + Due.numbered(16, "c", "", ",") + "}switch a{case " + Due.numbered(16, "c", "", ",") + ":"
            + Due.numbered(20, "let a", ";", "") + Due.times(100, "{}") + "}";
        for (int i = 0; i < 3; i++) {
            Due.type(x, unit);
            due.is("read() of a full unit, again", x.read(), 1);
            due.is("told(4) of it", x.told(4), 120);
            Due.type(x, "switch number { case 1: " + Due.times(12, "{"));
            due.is("read() of what is too deep", x.read(), -22);
        }
    }
}
