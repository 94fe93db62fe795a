/** Promises 3 and 4: fault 12, each limit at its edge. */
public final class LimitsTest {
    public static void main(String[] args) {
        Due due = new Due();
        enumerations(due);
        labels(due);
        arms(due);
        stmts(due);
        depths(due);
        names(due);
        wholeText(due);
        due.end();
    }

    private static void enumerations(Due due) {
        String four = "enum a { x } enum b { x } enum c { x } enum d { x } ";
        due.reads(four + "switch d {}", 0);
        due.faults(four + "enum ^e { x } switch d {}", 12);
        due.faults(four + "enum ^a { x } switch d {}", 3);
        String sixteen = Due.numbered(16, "c", "", ", ");
        due.reads("enum a { " + sixteen + " } enum b { " + sixteen + " } switch a {}", 0);
        due.faults("enum a { " + sixteen + ", ^d } switch a {}", 12);
        due.faults("enum a { " + sixteen + ", ^c3 } switch a {}", 3);
    }

    private static void labels(Due due) {
        String all = Due.numbered(32, "", "", ", ");
        due.reads("switch number { case " + all + ": default: }", 2);
        due.faults("switch number { case " + all + ", ^32: }", 12);
        due.faults("switch number { case " + all + ": case ^-32: }", 12);
        due.faults("switch number { case " + all + ", ^7: }", 3);
        due.faults("switch number { case " + all + ", ^\"a\": }", 5);
        due.faults("switch number { case " + all + ", ^-0: }", 3);
        due.faults("switch number { case " + all + ", ^- a: }", 12);
        due.faults("switch number { case " + all + ", ^- 1234567890: }", 12);
        due.faults("switch number { case " + all + ": case ^-", 12);
        due.faults("switch number { case " + all + ", ^->: }", 2);
        due.faults("switch number { case " + Due.numbered(31, "", "", ", ") + ", -^a: }", 2);
        String texts = Due.numbered(32, "\"", "\"", ", ");
        due.reads("switch text { case " + texts + ": }", 1);
        due.faults("switch text { case " + texts + ", ^-a: }", 5);
        due.faults("switch text { case " + texts + ", ^\"a\": }", 12);
    }

    private static void arms(Due due) {
        String twenty = Due.numbered(20, "case ", ": ", "");
        due.reads("switch number { " + twenty + "}", 20);
        due.faults("switch number { " + twenty + "^case 20: }", 12);
        due.faults("switch number { " + twenty + "^default: }", 12);
        due.faults("switch number { default: " + Due.numbered(19, "case ", ": ", "") + "^default: }", 3);
        due.faults("switch number { " + Due.numbered(20, "case ", " -> break; ", "") + "^case }", 12);
    }

    private static void stmts(Due due) {
        String most = Due.times(120, "add 1;");
        due.reads("switch number { case 1: " + most + "}", 1);
        due.faults("switch number { case 1: " + most + "^add 1; }", 12);
        due.faults("switch number { case 1: " + most + "^{ } }", 12);
        due.faults("switch number { case 1: " + most + "case 2: ^break; }", 12);
        due.faults("switch number { case 1: " + most + "^yield 1; }", 8);
        due.faults("switch number { case 1: " + most + "^a = 1; }", 7);
        due.faults("switch number { case 1: " + Due.times(119, "add 1;") + "break; ^add 1; }", 9);
        due.faults("switch number { case 1: " + Due.times(118, "add 1;") + "if add 1; else ^add 2; }", 12);
        due.reads("switch number { case 1: " + Due.times(117, "add 1;") + "if add 1; else add 2; }", 1);
        due.reads("switch number { case 1 -> { " + Due.times(119, "add 1;") + "} }", 1);
        due.faults("switch number { case 1 -> { " + Due.times(119, "add 1;") + "^add 1; } }", 12);
        due.faults("switch number { case 1 -> { " + Due.times(119, "add 1;") + "} default -> ^break; }", 12);
        due.faults("value number { case 1 -> { " + Due.times(118, "add 1;") + "yield 1; } default -> ^-2; }", 12);
        due.reads("value number { case 1 -> { " + Due.times(117, "add 1;") + "yield 1; } default -> -2; }", 2);
    }

    private static void depths(Due due) {
        due.reads("switch number { case 1: " + Due.times(11, "{") + Due.times(11, "}") + " }", 1);
        due.faults("switch number { case 1: " + Due.times(11, "{") + "^{" + Due.times(12, "}") + " }", 12);
        due.reads("switch number { case 1: " + Due.times(10, "if ") + "add 1; }", 1);
        due.faults("switch number { case 1: " + Due.times(11, "if ") + "^add 1; }", 12);
        due.faults("switch number { case 1: " + Due.times(11, "if ") + "^yield 1; }", 8);
        due.reads("switch number { case 1: " + Due.times(10, "if add 1; else ") + "add 1; }", 1);
        due.faults("switch number { case 1: " + Due.times(10, "if add 1; else ") + "if ^add 1; else add 2; }", 12);
        due.faults("switch number { case 1: " + Due.times(5, "if { ") + "if ^add 1; }", 12);
        due.reads("switch number { case 1 -> " + Due.times(10, "{") + "add 1;" + Due.times(10, "}") + " }", 1);
        due.faults("switch number { case 1 -> " + Due.times(11, "{") + "^add 1;" + Due.times(11, "}") + " }", 12);
    }

    private static void names(Due due) {
        String twenty = Due.numbered(20, "let a", ";", " ");
        due.reads("switch number { case 1: " + twenty + " }", 1);
        due.faults("switch number { case 1: " + twenty + " let ^b; }", 12);
        due.faults("switch number { case 1: " + twenty + " let ^a7; }", 6);
        due.faults("switch number { case 1: let b; { " + Due.numbered(19, "let a", " = 1;", " ") + " let ^c; } }", 12);
        due.faults("switch number { case 1: let b; case 2: " + Due.numbered(19, "let a", ";", " ") + " let ^c; }", 12);
        due.reads("switch number { case 1: { " + twenty + " } { " + twenty + " } " + twenty + " }", 1);
        due.reads("switch number { case 1 -> { " + twenty + " } case 2 -> { " + twenty + " } }", 2);
    }

    private static void wholeText(Due due) {
        String unit = "switch number {" + Due.times(2984, " ") + "}";
        due.reads(unit, 0);
        due.faults(unit.substring(0, 2999) + " ^", 2);
        due.faults(unit.substring(0, 2999) + "^@", 1);
        due.faults("^" + Due.times(3000, "a"), 1);
        due.faults("^" + Due.times(3000, "9"), 1);
        due.faults("^" + Due.times(3000, "{"), 2);
    }
}
