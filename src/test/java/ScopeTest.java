/** Promises 3 and 4: faults 6 and 7, what is in SCOPE and what is SET. */
public final class ScopeTest {
    public static void main(String[] args) {
        Due due = new Due();
        lets(due);
        scopes(due);
        set(due);
        setBehindIfs(due);
        due.end();
    }

    /** A switch with one old arm of these stmts. */
    private static String old(String stmts) {
        return "switch number { case 1: " + stmts + " }";
    }

    private static void lets(Due due) {
        due.faults(old("let a; let ^a;"), 6);
        due.faults(old("let a; { let ^a = 1; }"), 6);
        due.faults(old("let a; case 2: let ^a;"), 6);
        due.faults(old("if let a; else let ^a;"), 6);
        due.faults(old("if let a; let ^a;"), 6);
        due.reads(old("{ let a; } let a;"), 1);
        due.reads(old("{ let a; } { let a; }"), 1);
        due.reads(old("if { let a; } else { let a; } let a;"), 1);
        due.reads("switch number { case 1 -> { let a; } case 2 -> { let a; } }", 2);
    }

    private static void scopes(Due due) {
        due.faults(old("^b = 1;"), 7);
        due.faults(old("use ^b;"), 7);
        due.faults(old("{ let a = 1; } ^a = 2;"), 7);
        due.faults(old("{ let a = 1; } use ^a;"), 7);
        due.faults(old("{ { let a = 1; } use ^a; }"), 7);
        due.reads(old("let a = 1; { a = 2; { use a; } }"), 1);
        due.reads(old("let a; case 2: a = 1; use a; break; default: a = 3; use a;"), 3);
        due.reads(old("if let a; else add 1; a = 2; use a;"), 1);
        due.faults("switch number { case 1 -> { let a = 1; } case 2 -> { ^a = 2; } }", 7);
        due.faults("switch number { case 1 -> { let a = 1; } case 2 -> ^a = 2; }", 7);
        due.faults("switch number { case 1 -> use ^a; }", 7);
        due.faults("enum a { b } switch a { case b: use ^b; }", 7);
    }

    private static void set(Due due) {
        due.faults(old("let a; use ^a;"), 7);
        due.reads(old("let a; a = 1; use a;"), 1);
        due.reads(old("let a = 0; use a;"), 1);
        due.reads(old("let a; { a = 1; } use a;"), 1);
        due.faults(old("let a; let b; a = 1; use ^b;"), 7);
        due.faults(old("let a = 1; use a; case 2: use ^a;"), 7);
        due.faults(old("let a = 1; case 2: a = 2; default: use ^a;"), 7);
        due.faults(old("{ let a = 1; } let b; use ^b;"), 7);
        due.faults(old("{ let a = 1; } let a; use ^a;"), 7);
        due.faults(old("{ let a = 1; break; } case 2: let a; use ^a;"), 7);
    }

    private static void setBehindIfs(Due due) {
        due.faults(old("let a; if a = 1; use ^a;"), 7);
        due.reads(old("let a; if a = 1; else a = 2; use a;"), 1);
        due.faults(old("let a; if add 1; else a = 2; use ^a;"), 7);
        due.reads(old("let a; if a = 1; else break; use a;"), 1);
        due.reads(old("let a; if { add 1; throw 1; } else a = 1; use a;"), 1);
        due.reads(old("let a = 1; if break; use a;"), 1);
        due.faults(old("let a; if break; use ^a;"), 7);
        due.faults(old("let a; if { a = 1; break; } use ^a;"), 7);
        due.faults(old("let a; if a = 1; else use ^a;"), 7);
        due.reads(old("let a; let b; if { a = 1; b = 1; } else { b = 2; a = 2; } use a; use b;"), 1);
        due.faults(old("let a; let b; if { a = 1; b = 1; } else b = 2; use b; use ^a;"), 7);
        due.reads(old("let a; if if a = 1; else break; else if throw 1; else a = 2; use a;"), 1);
        due.faults(old("let a; if if a = 1; else add 1; else a = 2; use ^a;"), 7);
        due.faults(old("if let a = 1; use ^a;"), 7);
        due.reads(old("if let a = 1; else break; use a;"), 1);
        due.reads(old("if { break; } else let a = 1; use a;"), 1);
        due.faults(old("if break; else let a; use ^a;"), 7);
        due.faults(old("{ let a = 1; } if let b = 2; use ^b;"), 7);
        due.faults(old("if break; else { let a = 1; } let b; use ^b;"), 7);
        due.reads("value number { default: let a; if a = 1; else yield 2; use a; yield 1; }", 1);
    }
}
