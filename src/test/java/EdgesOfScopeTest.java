/** The edges of SCOPE and SET, and of FAULTS 6 and 7. */
public final class EdgesOfScopeTest {
    public static void main(String[] args) {
        Due due = new Due();
        letInScope(due);
        notInScope(due);
        useNotSet(due);
        oldArmsTogether(due);
        arrowsOfTheirOwn(due);
        blocksOfTheirOwn(due);
        fromItsLetOn(due);
        toTheEndOfThat(due);
        noScopeOfIfs(due);
        setBehindLetAndEqual(due);
        noneAtAnArm(due);
        behindAnIfWithElse(due);
        behindAnIfWithoutElse(due);
        allBehindBreak(due);
        allInBlocks(due);
        manyNames(due);
        due.end();
    }

    /** A switch with one old arm of these stmts. */
    private static String old(String stmts) {
        return "switch number { case 1: " + stmts + " }";
    }

    private static void letInScope(Due due) {
        due.by("FAULTS: 6 a let of a NAME that is in SCOPE");
        due.faults(old("let a; let ^a;"), 6);
        due.faults(old("let a = 1; let ^a = 1;"), 6);
        due.faults(old("let a; { let ^a; }"), 6);
        due.faults(old("let a; {{{{ let ^a; }}}}"), 6);
        due.faults(old("let a; let b; let c; let ^b @"), 6);
        due.faults(old("let a; if let ^a;"), 6);
        due.faults(old("let a; case 2: case 3: let ^a;"), 6);
        due.faults(old("let a; break; case 2: let ^a;"), 6);
        due.faults("switch number { default -> { let a; let ^a; } }", 6);
    }

    private static void notInScope(Due due) {
        due.by("FAULTS: 7 a NAME that is not in SCOPE");
        due.faults(old("^a = 1;"), 7);
        due.faults(old("^a @"), 7);
        due.faults(old("use ^a;"), 7);
        due.faults(old("use ^a @"), 7);
        due.faults(old("let a; ^b = 1;"), 7);
        due.faults(old("let ab; ^a = 1;"), 7);
        due.faults(old("let a = 1; use ^ab;"), 7);
        due.faults("enum e { k } switch e { case k: use ^k; }", 7);
        due.faults("enum e { k } switch e { case k: ^e = 1; }", 7);
    }

    private static void useNotSet(Due due) {
        due.by("FAULTS: 7 .. or (of use) not SET");
        due.faults(old("let a; use ^a;"), 7);
        due.faults(old("let a; let b = 1; use b; use ^a;"), 7);
        due.reads(old("let a; a = 1; use a;"), 1);
        due.reads(old("let a; a = 1; a = 2;"), 1);
    }

    private static void oldArmsTogether(Due due) {
        due.by("old arms (with :) are one SCOPE together");
        due.reads(old("let a; case 2: a = 1; use a; default: a = 2; use a;"), 3);
        due.faults(old("case 2: let a; default: let ^a;"), 6);
        due.faults(old("^a = 1; case 2: let a;"), 7);
        due.faults(old("break; case 2: ^a = 1; default: let a;"), 7);
        due.reads(old("let a; break; case 2: a = 1; use a;"), 2);
    }

    private static void arrowsOfTheirOwn(Due due) {
        due.by("an arm with -> is its own [SCOPE]");
        due.reads("switch number { case 1 -> { let a; } case 2 -> { let a = 1; use a; } }", 2);
        due.faults("switch number { case 1 -> { let a; } case 2 -> { ^a = 1; } }", 7);
        due.faults("switch number { case 1 -> { let a = 1; } case 2 -> use ^a; }", 7);
        due.faults("switch number { case 1 -> { let a = 1; } case 2 -> ^a = 1; }", 7);
        due.faults("value number { case 1 -> { let a = 1; yield 1; } default -> { use ^a; yield 2; } }", 7);
    }

    private static void blocksOfTheirOwn(Due due) {
        due.by("each block [is] its own [SCOPE]");
        due.reads(old("{ let a; } { let a; } let a;"), 1);
        due.reads(old("{ let a; { let b; } { let b; } let b; }"), 1);
        due.reads(old("if { let a; } else { let a; }"), 1);
        due.faults(old("{ let a = 1; } use ^a;"), 7);
        due.faults(old("{ let a; } ^a = 1;"), 7);
        due.faults(old("{ { let a; } ^a = 1; }"), 7);
        due.faults(old("if { let a; } else ^a = 1;"), 7);
        due.faults(old("{ let a; } case 2: ^a = 1;"), 7);
        due.reads(old("let a; { a = 1; } use a;"), 1);
    }

    private static void fromItsLetOn(Due due) {
        due.by("A NAME is in SCOPE from its let on");
        due.faults(old("^a = 1; let a;"), 7);
        due.faults(old("use ^a; let a = 1;"), 7);
        due.faults(old("{ ^a = 1; } let a;"), 7);
        due.reads(old("{ let a; } let a; a = 1;"), 1);
    }

    private static void toTheEndOfThat(Due due) {
        due.by("A NAME is in SCOPE .. to the end of that");
        due.reads(old("{ let a; { { a = 1; } } use a; }"), 1);
        due.faults(old("{ let a; { { a = 1; } } use a; } use ^a;"), 7);
        SwitchRules x = Due.unit(old("let a = 1; { let b = 2; { let c = 3; use c; } let d = 4; use d; use b; }"
            + " let e = 5; use a; use e;"));
        due.runs(x, 1, 0, 1, 0, 3, 4, 2, 1, 5);
    }

    private static void noScopeOfIfs(Due due) {
        due.by("A NAME is in SCOPE from its let on to the end of that (an if is no SCOPE)");
        due.faults(old("if let a; let ^a;"), 6);
        due.faults(old("if let a; else let ^a;"), 6);
        due.reads(old("if let a; a = 1; use a;"), 1);
        due.reads(old("if let a; else a = 1;"), 1);
        SwitchRules x = Due.unit(old("if let a = 2; else a = 3; use a;"));
        due.runs(x, 1, 1, 1, 0, 2);
        due.runs(x, 1, 0, 1, 0, 3);
    }

    private static void setBehindLetAndEqual(Due due) {
        due.by("It is SET behind let with =, behind =");
        due.reads(old("let a = 0; use a;"), 1);
        due.reads(old("let a; a = 0; use a;"), 1);
        due.reads(old("let a; { { a = 0; } } use a;"), 1);
        due.faults(old("let a; { use ^a; } a = 1;"), 7);
        due.faults(old("let a = 1; let b; use ^b;"), 7);
        due.faults(old("{ let a = 1; } let b; use ^b;"), 7);
        due.faults(old("{ let a = 1; } { let a; use ^a; }"), 7);
        due.faults(old("{ let a = 1; let b = 1; } let c = 1; let d; use c; use ^d;"), 7);
    }

    private static void noneAtAnArm(Due due) {
        due.by("at the beginning of an old arm no NAME is SET");
        due.faults(old("let a = 1; case 2: use ^a;"), 7);
        due.faults(old("let a = 1; use a; case 2: default: use ^a;"), 7);
        due.faults(old("let a = 1; break; case 2: use ^a;"), 7);
        due.faults(old("let a; throw 1; case 2: use ^a;"), 7);
        due.reads(old("let a = 1; case 2: a = 1; use a;"), 2);
        due.faults(old("let a = 1; case 2: let b = 1; use ^a;"), 7);
    }

    private static void behindAnIfWithElse(Due due) {
        due.by("Behind an if what was SET before, and what is behind both");
        due.reads(old("let a = 1; if add 1; else add 2; use a;"), 1);
        due.reads(old("let a; if a = 1; else a = 2; use a;"), 1);
        due.faults(old("let a; if a = 1; else add 2; use ^a;"), 7);
        due.faults(old("let a; if add 1; else a = 2; use ^a;"), 7);
        due.faults(old("let a; let b; if a = 1; else b = 2; use ^a;"), 7);
        due.faults(old("let a; let b; if a = 1; else b = 2; use ^b;"), 7);
        due.faults(old("let a; if a = 1; else use ^a;"), 7);
        due.reads(old("let a; if if a = 1; else a = 2; else { { a = 3; } } use a;"), 1);
        due.faults(old("let a; if if a = 1; else a = 2; else if a = 3; use ^a;"), 7);
        due.reads(old("let a; let b; if { a = 1; b = 1; } else { b = 1; a = 1; } use a; use b;"), 1);
    }

    private static void behindAnIfWithoutElse(Due due) {
        due.by("Behind an if .. (without else: behind the stmt and before)");
        due.reads(old("let a = 1; if add 1; use a;"), 1);
        due.reads(old("let a = 1; if a = 2; use a;"), 1);
        due.faults(old("let a; if a = 1; use ^a;"), 7);
        due.faults(old("let a; if { a = 1; use a; } use ^a;"), 7);
        due.faults(old("if let a = 1; use ^a;"), 7);
        due.reads(old("if let a = 1; a = 2; use a;"), 1);
    }

    private static void allBehindBreak(Due due) {
        due.by("what is behind a break, yield, throw counts as all SET");
        due.reads(old("let a; if a = 1; else break; use a;"), 1);
        due.reads(old("let a; if break; else a = 1; use a;"), 1);
        due.reads(old("let a; if a = 1; else throw 1; use a;"), 1);
        due.reads("value number { default: let a; if a = 1; else yield 1; use a; yield 2; }", 1);
        due.faults(old("let a; if add 1; else break; use ^a;"), 7);
        due.faults(old("let a; if break; use ^a;"), 7);
        due.faults(old("let a; if throw 1; else add 1; use ^a;"), 7);
        due.reads(old("let a; if if a = 1; else break; else if throw 1; else a = 2; use a;"), 1);
        due.reads(old("if break; else let a = 1; use a;"), 1);
        due.faults(old("if break; else let a; use ^a;"), 7);
        due.faults(old("if let a; else break; use ^a;"), 7);
    }

    private static void allInBlocks(Due due) {
        due.by("what is behind a break, yield, throw counts as all SET (of blocks that end with them, too)");
        due.reads(old("let a; if { add 1; { break; } } else a = 1; use a;"), 1);
        due.reads(old("let a; if a = 1; else { let b = 1; throw 2; } use a;"), 1);
        due.reads(old("let a; if a = 1; else if break; else throw 1; use a;"), 1);
        due.faults(old("let a; if a = 1; else if break; use ^a;"), 7);
        due.faults(old("if { let b = 1; break; } else add 1; let a; use ^a;"), 7);
        due.faults(old("if { let b; break; } else { let c = 1; } let a; use ^a;"), 7);
    }

    private static void manyNames(Due due) {
        due.by("It is SET behind let with =, behind = (each NAME for itself, up to the 20th)");
        String lets = Due.numbered(20, "let a", ";", " ");
        for (int i = 0; i < 20; i++) {
            due.reads(old(lets + " a" + i + " = 1; use a" + i + ";"), 1);
            due.faults(old(lets + " a" + i + " = 1; use ^a" + (i + 1) % 20 + ";"), 7);
            due.faults(old(lets + " if a" + i + " = 1; else break; use a" + i + "; use ^a" + (i + 19) % 20 + ";"), 7);
        }
        due.reads(old(lets + Due.numbered(20, "a", " = 1;", "") + Due.numbered(20, "use a", ";", "")), 1);
    }
}
