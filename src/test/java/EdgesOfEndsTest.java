/** The edges of REACHED, END, FALLEN OFF and EXHAUSTIVE, and of FAULTS 9 to 11. */
public final class EdgesOfEndsTest {
    private static final String[] STMTS = {"add 1;", "{ }", "let b;", "if add 1;", "use a;", "a = 1;", "break;", "throw 1;"};

    public static void main(String[] args) {
        Due due = new Due();
        firstOfAnArm(due);
        firstOfABlock(due);
        branches(due);
        behindAnother(due);
        behindBreakYieldThrow(due);
        blocksThatCantEnd(due);
        emptyBlocksEnd(due);
        ifsThatCantEnd(due);
        ifsThatEnd(due);
        lastOldArm(due);
        otherOldArms(due);
        blocksBehindArrows(due);
        noFallOfASwitch(due);
        withADefault(due);
        allConstants(due);
        notOfOthers(due);
        fallenOffAheadOfExhaustive(due);
        due.end();
    }

    /** A switch with one old arm of these stmts, in which a is in SCOPE and SET. */
    private static String old(String stmts) {
        return "switch number { case 1: let a = 1; " + stmts + " }";
    }

    private static String oldValue(String stmts) {
        return "value number { default: " + stmts + " }";
    }

    private static void firstOfAnArm(Due due) {
        due.by("REACHED: the first stmt of an arm");
        for (String stmt : STMTS) {
            due.reads("switch number { case 1: let a; break; case 2: a = 1; break; case 3: a = 1; " + stmt + " }", 3);
        }
        due.reads("switch number { case 1: break; case 2: break; default: throw 1; case 3: break; }", 4);
        due.reads("switch number { case 1 -> break; case 2 -> throw 1; case 3 -> { break; } case 4 -> add 1; }", 4);
        due.reads("value number { case 1: yield 1; case 2: throw 1; default: yield 2; }", 3);
    }

    private static void firstOfABlock(Due due) {
        due.by("REACHED: the first stmt .. of a block that is");
        for (String stmt : STMTS) {
            due.reads(old("{ " + stmt + " }"), 1);
            due.reads(old("add 1; {{{ " + stmt + " }}}"), 1);
        }
        due.faults(old("break; ^{ break; }"), 9);
    }

    private static void branches(Due due) {
        due.by("REACHED: .. a branch of an if that is");
        for (String stmt : STMTS) {
            due.reads(old("if { " + stmt + " } else add 1;"), 1);
            due.reads(old("if " + stmt), 1);
            due.reads(old("if break; else " + stmt), 1);
        }
        due.faults(old("break; ^if add 1; else add 2;"), 9);
        due.faults(old("if { break; ^add 1; } else add 2;"), 9);
        due.faults(old("if add 1; else { throw 1; ^add 2; }"), 9);
    }

    private static void behindAnother(Due due) {
        due.by("REACHED: .. a stmt behind another one, unless this can't END");
        String[] ends = {"add 1;", "{ }", "let b;", "use a;", "a = 1;", "if break;", "{ add 1; }"};
        for (String end : ends) {
            due.reads(old(end + " add 2;"), 1);
            due.reads(old(end + " break;"), 1);
        }
    }

    private static void behindBreakYieldThrow(Due due) {
        due.by("break, yield, throw can't END");
        for (String stmt : STMTS) {
            due.faults(old("break; ^" + stmt), 9);
            due.faults(old("throw 1; ^" + stmt), 9);
            due.faults(old("{ break; ^" + stmt + " }"), 9);
        }
        due.faults(oldValue("yield 1; ^add 1;"), 9);
        due.faults(oldValue("yield 1; ^yield 1;"), 9);
        due.faults(oldValue("yield -1; ^throw 1;"), 9);
        due.faults(oldValue("throw 1; ^yield 1;"), 9);
        due.faults("value number { default -> { yield 1; ^yield 2; } }", 9);
    }

    private static void blocksThatCantEnd(Due due) {
        due.by("a block can't [END], if its last stmt can't");
        due.faults(old("{ break; } ^add 1;"), 9);
        due.faults(old("{ add 1; throw 1; } ^add 1;"), 9);
        due.faults(old("{{{ break; }}} ^add 1;"), 9);
        due.faults(old("{ add 1; { break; } } ^{ }"), 9);
        due.faults(oldValue("{ yield 1; } ^yield 1;"), 9);
    }

    private static void emptyBlocksEnd(Due due) {
        due.by("a block can't [END], if its last stmt can't (one that has none can)");
        due.reads(old("{ } add 1;"), 1);
        due.reads(old("{{{ }}} add 1;"), 1);
        due.reads(old("{ if break; } add 1;"), 1);
        due.reads(old("if break; else { } add 1;"), 1);
    }

    private static void ifsThatCantEnd(Due due) {
        due.by("an if with else can't [END], if neither branch can");
        due.faults(old("if break; else break; ^add 1;"), 9);
        due.faults(old("if throw 1; else break; ^add 1;"), 9);
        due.faults(old("if { add 1; break; } else {{ throw 1; }} ^add 1;"), 9);
        due.faults(old("if if break; else break; else if break; else break; ^add 1;"), 9);
        due.faults(old("{ if break; else throw 1; } ^add 1;"), 9);
        due.faults(oldValue("if yield 1; else throw 1; ^yield 2;"), 9);
    }

    private static void ifsThatEnd(Due due) {
        due.by("an if with else can't [END], if neither branch can (else it can, and without else it can)");
        due.reads(old("if break; add 1;"), 1);
        due.reads(old("if break; else add 1; add 2;"), 1);
        due.reads(old("if add 1; else break; add 2;"), 1);
        due.reads(old("if { break; } add 2;"), 1);
        due.reads(old("if if break; else break; add 2;"), 1);
        due.reads(old("if if break; else break; else if break; add 2;"), 1);
        due.reads(old("if if break; else add 1; else break; add 2;"), 1);
    }

    private static void lastOldArm(Due due) {
        due.by("FAULTS: 10 the } of a value whose last old arm may be FALLEN OFF");
        due.faults("value number { default: ^}", 10);
        due.faults("value number { default: add 1; ^}", 10);
        due.faults("value number { default: { } ^}", 10);
        due.faults("value number { default: if yield 1; ^}", 10);
        due.faults("value number { default: if yield 1; else add 1; ^}", 10);
        due.faults("value number { default: { yield 1; } case 1: ^}", 10);
        due.faults("value number { default: yield 1; case 1: { if yield 1; } ^}", 10);
        due.reads(oldValue("yield 1;"), 1);
        due.reads(oldValue("throw 1;"), 1);
        due.reads(oldValue("{{ yield 1; }}"), 1);
        due.reads(oldValue("if yield 1; else throw 1;"), 1);
        due.faults("value number { default: add 1; ^} @", 10);
    }

    private static void otherOldArms(Due due) {
        due.by("FAULTS: 10 the } of a value whose last old arm may be FALLEN OFF (the others may)");
        due.reads(oldValue("case 1: case 2: add 1; case 3: if yield 1; case 4: yield 2;"), 5);
        SwitchRules x = Due.unit(oldValue("case 1: case 2: add 1; case 3: if yield 1; case 4: yield 2;"));
        due.runs(x, 0, 0, 2, 2, 1);
        due.runs(x, 3, 1, 2, 1);
        due.runs(x, 4, 1, 2, 2);
    }

    private static void blocksBehindArrows(Due due) {
        due.by("FAULTS: 10 the } .. of a block behind -> of a value that may be [FALLEN OFF]");
        due.faults("value number { default -> {^} }", 10);
        due.faults("value number { default -> { add 1; ^} }", 10);
        due.faults("value number { default -> { if yield 1; ^} }", 10);
        due.faults("value number { default -> { { yield 1; } } case 1 -> { { } ^} }", 10);
        due.faults("value number { case 1 -> { add 1; ^} }", 10);
        due.faults("enum e { k, l } value e { case k -> {^}", 10);
        due.reads("value number { default -> { yield 1; } case 1 -> { throw 1; } }", 2);
        due.reads("value number { default -> { { } if { } add 1; { { yield 1; } } } }", 1);
        due.reads("value number { default -> { if { yield 1; } else { throw 1; } } }", 1);
    }

    private static void noFallOfASwitch(Due due) {
        due.by("FAULTS: 10 .. of a value (a switch may fall off)");
        due.reads("switch number { default: }", 1);
        due.reads("switch number { default: add 1; }", 1);
        due.reads("switch number { default -> { } case 1 -> { add 1; } }", 2);
    }

    private static void withADefault(Due due) {
        due.by("A value is EXHAUSTIVE: it has a default");
        due.reads("value number { default -> 1; }", 1);
        due.reads("value text { case \"a\" -> 1; default -> 2; }", 2);
        due.reads("enum e { k, l } value e { default -> 2; }", 1);
        due.reads("enum e { k, l } value e { default: case k: yield 1; }", 2);
        due.reads("enum e { k, l } value e { case k, l -> 1; default -> 2; }", 2);
        due.by("FAULTS: 11 the last } of a value that is not EXHAUSTIVE");
        due.faults("value number {^}", 11);
        due.faults("value text {^}", 11);
        due.faults("value number { case 1 -> 1; ^}", 11);
        due.faults("value text { case \"\" -> 1; ^}", 11);
        due.faults("value number { case 1: yield 1; ^}", 11);
        due.faults("value number { case " + Due.numbered(32, "", "", ", ") + " -> 1; ^}", 11);
        due.faults("value number { case 1 -> 1; ^} @", 11);
    }

    private static void allConstants(Due due) {
        due.by("A value is EXHAUSTIVE: .. or all constants of its enumeration");
        for (int n = 1; n <= 16; n++) {
            String enumeration = "enum d { j } enum e { " + Due.numbered(n, "k", "", ", ") + " } ";
            due.reads(enumeration + "value e { case " + Due.numbered(n, "k", "", ", ") + " -> 1; }", 1);
            due.reads(enumeration + "value e { " + Due.numbered(n, "case k", ": ", "") + "yield 1; }", n);
            String allButOne = n == 1 ? "" : "case " + Due.numbered(n - 1, "k", "", ", ") + " -> 1; ";
            due.faults(enumeration + "value e { " + allButOne + "^}", 11);
        }
        due.reads("enum e { k, l, m } value e { case m -> 1; case k, l -> 2; }", 2);
        due.faults("enum e { k, l, m } value e { case m -> 1; case k -> 2; ^}", 11);
        due.faults("enum e { k, l, m } value e { case m, l -> 1; ^}", 11);
    }

    private static void notOfOthers(Due due) {
        due.by("FAULTS: 11 .. of a value (a switch need not be EXHAUSTIVE)");
        due.reads("switch number {}", 0);
        due.reads("switch text { case \"a\": }", 1);
        due.reads("enum e { k, l } switch e { case k -> break; }", 1);
    }

    private static void fallenOffAheadOfExhaustive(Due due) {
        due.by("FAULTS, .. of one token the least: 10 .. 11");
        due.faults("value number { case 1: ^}", 10);
        due.faults("enum e { k, l } value e { case k: add 1; ^}", 10);
        due.faults("enum e { k, l } value e { case k: yield 1; ^}", 11);
    }
}
