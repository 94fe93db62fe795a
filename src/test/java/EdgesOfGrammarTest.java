/** The edges of the grammar: what may be empty, what ends too early, what is too much by a token; FAULT 2. */
public final class EdgesOfGrammarTest {
    private static final String[] TOKENS = {"enum", "switch", "value", "number", "text", "case", "default", "add", "let",
        "use", "break", "yield", "throw", "if", "else", "a", "1", "\"a\"", "{", "}", ":", ";", ",", "=", "-", "->"};
    private static final String STMT_WORDS = " add let use break yield throw if ";

    public static void main(String[] args) {
        Due due = new Due();
        endsEverywhere(due);
        moreBehindTheUnit(due);
        noEnumeration(due);
        constantsAtLeastOne(due);
        unitsFirst(due);
        selectors(due);
        noArms(due);
        labelsAtLeastOne(due);
        labelsOfOneMinus(due);
        colonOrArrow(due);
        noStmts(due);
        bodiesOfASwitch(due);
        bodiesOfAValue(due);
        stmtsBegin(due);
        stmtsEnd(due);
        nearestIf(due);
        due.end();
    }

    private static void endsEverywhere(Due due) {
        due.by("FAULTS (.. the text's length at its end): 2 it can't come there");
        for (String unit : Due.UNITS) {
            String before = "";
            for (String token : unit.split(" ")) {
                due.faults(before + "^", 2);
                due.faults(before + " \n^", 2);
                before = before.isEmpty() ? token : before + " " + token;
            }
            due.is("place() of " + unit, Due.unit(unit).place(), -1);
        }
    }

    private static void moreBehindTheUnit(Due due) {
        due.by("FAULTS: 2 it can't come there (behind the last })");
        for (String token : TOKENS) {
            due.faults("switch number { } ^" + token, 2);
            due.faults("value number { default -> 1; } ^" + token + " ", 2);
        }
    }

    private static void noEnumeration(Due due) {
        due.by("unit = { enum NAME { NAME { , NAME } } } .. (none, or several)");
        due.reads("switch number {}", 0);
        due.reads("enum a { b } switch number {}", 0);
        due.reads("enum a { b } enum c { d } enum e { f } enum g { h } switch number {}", 0);
    }

    private static void constantsAtLeastOne(Due due) {
        due.by("enum NAME { NAME { , NAME } }");
        due.reads("enum a { b } switch a {}", 0);
        due.faults("enum a { ^} switch a {}", 2);
        due.faults("enum a { ^, b } switch a {}", 2);
        due.faults("enum a { b, ^} switch a {}", 2);
        due.faults("enum a { b,^, c } switch a {}", 2);
        due.faults("enum a { b ^c } switch a {}", 2);
        due.faults("enum a { b^; c } switch a {}", 2);
        due.faults("enum a { ^1 } switch a {}", 2);
        due.faults("enum a { ^\"b\" } switch a {}", 2);
        due.faults("enum a ^; switch a {}", 2);
        due.faults("enum ^{ b } switch a {}", 2);
        due.faults("enum a { b ^enum", 2);
        due.faults("enum a { b } ^} switch a {}", 2);
    }

    private static void unitsFirst(Due due) {
        due.by("unit = .. ( switch | value )");
        for (String token : TOKENS) {
            if (token.equals("enum") || token.equals("switch") || token.equals("value")) {
                due.faults(token + "^", 2);
            } else {
                due.faults("^" + token, 2);
                due.faults("enum a { b } ^" + token, 2);
            }
        }
    }

    private static void selectors(Due due) {
        due.by("unit = .. ( number | text | NAME )");
        for (String token : TOKENS) {
            if (token.equals("number") || token.equals("text")) {
                due.faults("switch " + token + "^", 2);
                due.faults("value " + token + " ^" + token, 2);
            } else {
                due.faults("switch ^" + token + " {}", token.equals("a") ? 5 : 2);
                due.faults("value ^" + token + " {}", token.equals("a") ? 5 : 2);
            }
        }
        for (String token : TOKENS) {
            if (!token.equals("{")) {
                due.faults("switch number ^" + token, 2);
            }
        }
    }

    private static void noArms(Due due) {
        due.by("unit = .. { { arm } } (no arm)");
        due.reads("switch number {}", 0);
        due.reads("switch text {}", 0);
        due.reads("enum a { b } switch a {}", 0);
        for (String token : TOKENS) {
            boolean isArm = token.equals("case") || token.equals("default");
            if (!isArm && !token.equals("}")) {
                due.faults("switch number { ^" + token, 2);
                due.faults("switch number { case 1 -> break; ^" + token, 2);
            }
        }
    }

    private static void labelsAtLeastOne(Due due) {
        due.by("arm = ( case label { , label } | default )");
        due.faults("switch number { case ^: }", 2);
        due.faults("switch number { case ^-> break; }", 2);
        due.faults("switch number { case ^, 1: }", 2);
        due.faults("switch number { case 1, ^: }", 2);
        due.faults("switch number { case 1,^, 2: }", 2);
        due.faults("switch number { case 1, ^-> break; }", 2);
        due.faults("switch number { case 1 ^2: }", 2);
        due.faults("switch number { case 1 ^-2: }", 2);
        due.faults("switch number { case 1, ^case 2: }", 2);
        due.faults("switch number { case 1, ^default: }", 2);
        due.faults("switch number { case ^default: }", 2);
        due.faults("switch number { default ^1: }", 2);
        due.faults("switch number { default^, 1: }", 2);
        due.faults("switch number { default ^case 1: }", 2);
    }

    private static void labelsOfOneMinus(Due due) {
        due.by("label = [ - ] NUMBER | TEXT | NAME");
        for (String token : TOKENS) {
            if (!token.equals("1")) {
                due.faults("switch number { case - ^" + token, 2);
                due.faults("switch number { case 5, - ^" + token, 2);
            }
        }
        due.reads("switch number { case - 1: }", 1);
        due.faults("switch number { case -^-1: }", 2);
    }

    private static void colonOrArrow(Due due) {
        due.by("arm = .. ( : { stmt } | -> body )");
        for (String token : TOKENS) {
            boolean isOne = token.equals(":") || token.equals("->");
            if (!isOne) {
                due.faults("switch number { default ^" + token, 2);
            }
            if (!isOne && !token.equals(",")) {
                due.faults("switch number { case 1 ^" + token, 2);
            }
        }
    }

    private static void noStmts(Due due) {
        due.by("arm = .. : { stmt }, block = { { stmt } } (no stmt)");
        due.reads("switch number { case 1: }", 1);
        due.reads("switch number { default: case 1: case 2: }", 3);
        due.reads("switch number { case 1: {} }", 1);
        due.reads("switch number { case 1 -> {} }", 1);
        due.reads("switch number { case 1: if {} else {} }", 1);
        due.faults("switch number { case 1 -> ^}", 2);
        due.faults("switch number { case 1 -> ^case 2 -> {} }", 2);
        due.faults("switch number { case 1 -> {} ^{} }", 2);
        due.faults("switch number { case 1: ^; }", 2);
        due.faults("switch number { case 1: {}^; }", 2);
    }

    private static void bodiesOfASwitch(Due due) {
        due.by("body: of a switch: block | simple ;");
        String bodies = " { add use a break throw ";
        for (String token : TOKENS) {
            if (!bodies.contains(" " + token + " ")) {
                due.faults("switch number { case 1 -> ^" + token, 2);
            }
        }
        due.reads("switch number { case 1 -> { } case 2 -> add 1; case 3 -> break; case 4 -> throw 0; }", 4);
        due.faults("switch number { case 1 -> use ^a; }", 7);
        due.faults("switch number { case 1 -> ^a = 1; }", 7);
        due.faults("switch number { case 1 -> break ^}", 2);
        due.faults("switch number { case 1 -> break;^; }", 2);
        due.faults("switch number { case 1 -> break; ^break; }", 2);
    }

    private static void bodiesOfAValue(Due due) {
        due.by("body: .. of a value: block | [ - ] NUMBER ; (it is yielded) | throw NUMBER ;");
        String bodies = " { - 1 throw ";
        for (String token : TOKENS) {
            if (!bodies.contains(" " + token + " ")) {
                due.faults("value number { default -> ^" + token, 2);
            }
            if (!token.equals("1")) {
                due.faults("value number { default -> - ^" + token, 2);
                due.faults("value number { default -> throw ^" + token, 2);
            }
            if (!token.equals(";")) {
                due.faults("value number { default -> 1 ^" + token, 2);
                due.faults("value number { default -> -1 ^" + token, 2);
                due.faults("value number { default -> throw 1 ^" + token, 2);
            }
        }
    }

    private static void stmtsBegin(Due due) {
        due.by("stmt = block | let .. | if .. | yield .. | simple ; (its first token)");
        for (String token : TOKENS) {
            boolean isStmt = STMT_WORDS.contains(" " + token + " ") || token.equals("{") || token.equals("a");
            boolean isArm = token.equals("case") || token.equals("default");
            if (!isStmt && !isArm && !token.equals("}")) {
                due.faults("switch number { case 1: ^" + token, 2);
                due.faults("switch number { case 1: add 1; ^" + token, 2);
            }
            if (!isStmt && !token.equals("}")) {
                due.faults("switch number { case 1: { ^" + token, 2);
                due.faults("switch number { case 1: { add 1; ^" + token, 2);
            }
            if (!isStmt) {
                due.faults("switch number { case 1: if ^" + token, 2);
                due.faults("switch number { case 1: if add 1; else ^" + token, 2);
            }
        }
    }

    private static void stmtsEnd(Due due) {
        due.by("simple = add NUMBER | use NAME | NAME = NUMBER | break | throw NUMBER, let NAME [ = NUMBER ] ;");
        String[] beginnings = {"add", "add 1", "use", "use a", "a", "a =", "a = 1", "break", "throw", "throw 1", "let",
            "let b", "let b =", "let b = 1"};
        String[] next = {"1", ";", "a", ";", "=", "1", ";", ";", "1", ";", "b", ";", "1", ";"};
        for (int i = 0; i < beginnings.length; i++) {
            for (String token : TOKENS) {
                boolean isNext = token.equals(next[i])
                    || beginnings[i].equals("let") && token.equals("a")
                    || beginnings[i].equals("let b") && token.equals("=");
                if (!isNext) {
                    due.faults("switch number { case 1: let a = 1; " + beginnings[i] + " ^" + token, 2);
                }
            }
        }
        due.by("stmt = .. yield [ - ] NUMBER ;");
        for (String token : TOKENS) {
            if (!token.equals("1")) {
                due.faults("value number { default: yield - ^" + token, 2);
            }
            if (!token.equals("1") && !token.equals("-")) {
                due.faults("value number { default: yield ^" + token, 2);
            }
            if (!token.equals(";")) {
                due.faults("value number { default: yield -1 ^" + token, 2);
            }
        }
    }

    private static void nearestIf(Due due) {
        due.by("an else belongs to the nearest if");
        SwitchRules x = Due.unit("switch number { default: if if add 1; else add 2; add 3; }");
        due.runs(x, 0, 0, 1, 0, 3);
        due.runs(x, 0, 1, 1, 0, 2, 3);
        due.runs(x, 0, 2, 1, 0, 3);
        due.runs(x, 0, 3, 1, 0, 1, 3);
        SwitchRules y = Due.unit("switch number { default: if { if add 1; } else add 2; add 3; }");
        due.runs(y, 0, 0, 1, 0, 2, 3);
        due.runs(y, 0, 1, 1, 0, 3);
        due.runs(y, 0, 3, 1, 0, 1, 3);
        SwitchRules z = Due.unit("switch number { default: if if if add 1; else add 2; else add 3; else add 4; }");
        due.runs(z, 0, 0, 1, 0, 4);
        due.runs(z, 0, 1, 1, 0, 3);
        due.runs(z, 0, 3, 1, 0, 2);
        due.runs(z, 0, 7, 1, 0, 1);
        due.faults("switch number { default: if add 1; else add 2; ^else add 3; }", 2);
        due.faults("switch number { default: { if add 1; } ^else add 2; }", 2);
        due.faults("switch number { default: if { } { } ^else { } }", 2);
        due.faults("switch number { default: ^else add 1; }", 2);
        due.faults("switch number { default: if add 1; case 1: ^else add 1; }", 2);
    }
}
