/** Promises 3 and 4: the tokens and the grammar, faults 1 and 2. */
public final class TokensTest {
    public static void main(String[] args) {
        Due due = new Due();
        tokens(due);
        words(due);
        units(due);
        arms(due);
        bodies(due);
        stmts(due);
        latestPlace(due);
        due.end();
    }

    private static void tokens(Due due) {
        due.reads("switch number{case 1:add 2;}", 1);
        due.reads("\t switch\rnumber\n{case-1->add 2;case\n-\t2->break;}\r\n", 2);
        due.reads("switch number { case 123456789, 000000000: add 999999999; }", 1);
        due.reads("switch text { case \"\", \"abcdefgh\", \"AZaz09\": }", 1);
        due.reads("switch number { case 1: let abcdefgh; let a2345678; let defaultx; }", 1);
        due.faults("switch number { case ^1234567890: }", 1);
        due.faults("switch number { case ^0000000000: }", 1);
        due.faults("switch number { case 1: let ^abcdefghi; }", 1);
        due.faults("^switchnumber {}", 1);
        due.faults("switch number { case 1: let ^Ab; }", 1);
        due.faults("switch number { case 1: let a^B; }", 1);
        due.faults("switch number { case 1: let ^_; }", 1);
        due.faults("switch text { case ^\"abcdefghi\": }", 1);
        due.faults("switch text { case ^\"a b\": }", 1);
        due.faults("switch text { case ^\"a", 1);
        due.faults("switch text { case ^\"", 1);
        due.faults("switch text { case ^\"a-\": }", 1);
        due.faults("switch number { case ^> }", 1);
        due.faults("switch number { case 1 ^- > break; }", 2);
        due.faults("switch number { case - ^> }", 1);
        due.faults("switch number {^\f}", 1);
        due.faults("switch number {^\0}", 1);
        due.faults("switch number {^\u00ff}", 1);
        due.faults("switch number {} ^@", 1);
        due.faults("switch number { case 1^a: }", 2);
        due.faults("switch number { case -^-1: }", 2);
        due.faults("switch number { case 1: add ^-1; }", 2);
    }

    /** Words are no names: each of them where only a name can come. */
    private static void words(Due due) {
        String all = "enum switch value number text case default add let use break yield throw if else";
        for (String word : all.split(" ")) {
            due.faults("enum ^" + word + " { a } switch number {}", 2);
            due.faults("enum a { ^" + word + " } switch number {}", 2);
            due.faults("switch number { case 1: let ^" + word + "; }", 2);
            due.reads("enum " + word + "x { a } switch number {}", 0);
        }
    }

    private static void units(Due due) {
        due.faults("^", 2);
        due.faults("  ^", 2);
        due.faults("switch^", 2);
        due.faults("switch ^", 2);
        due.faults("switch number^", 2);
        due.faults("switch number {^", 2);
        due.faults("^number {}", 2);
        due.faults("^}", 2);
        due.faults("switch ^value {}", 2);
        due.faults("switch ^5 {}", 2);
        due.faults("switch number ^}", 2);
        due.faults("switch number {} ^}", 2);
        due.faults("switch number {} ^switch number {}", 2);
        due.faults("enum a { ^} switch a {}", 2);
        due.faults("enum a { b, ^} switch a {}", 2);
        due.faults("enum a { b ^c } switch a {}", 2);
        due.faults("enum a ^b", 2);
        due.faults("enum a { b }^", 2);
        due.faults("switch number {} ^enum a { b }", 2);
        due.reads("enum a { a, b } enum b { a, b } switch b { case a: case b: }", 2);
        due.reads("switch number {}", 0);
        due.reads("switch text {}", 0);
        due.reads("enum a { b } switch a {}", 0);
    }

    private static void arms(Due due) {
        due.faults("switch number { ^add 1; }", 2);
        due.faults("switch number { case ^: }", 2);
        due.faults("switch number { case ^-> break; }", 2);
        due.faults("switch number { case 1 ^2: }", 2);
        due.faults("switch number { case 1, ^: }", 2);
        due.faults("switch number { case 1^; }", 2);
        due.faults("switch number { case 1 ^case 2: }", 2);
        due.faults("switch number { case 1 ^}", 2);
        due.faults("switch number { default ^}", 2);
        due.faults("switch number { case -^: }", 2);
        due.faults("switch number { case -^a: }", 2);
        due.faults("switch number { case -^\"a\": }", 2);
        due.faults("switch number { case 1, - ^- 2: }", 2);
        due.faults("switch number { case -^", 2);
        due.faults("switch number { case ^default: }", 2);
        due.faults("switch number { default ^1: }", 2);
        due.faults("switch number { default^, 1: }", 2);
        due.faults("switch number { case 1: ^, }", 2);
        due.faults("switch number { case 1: ^else add 1; }", 2);
        due.faults("switch number { case 1: ^5; }", 2);
        due.faults("switch number { case 1: } ^case 2: }", 2);
        due.reads("switch number { case 1: case 2: default: case 3: }", 4);
        due.reads("switch number { case 1, -2, 3: default: }", 2);
    }

    private static void bodies(Due due) {
        due.reads("switch number { case 1 -> {} case 2 -> add 1; case 3 -> break; case 4 -> throw 5; }", 4);
        due.reads("value number { case 1 -> { yield 1; } case 2 -> 3; case 3 -> -4; default -> throw 5; }", 4);
        due.faults("switch number { case 1 -> ^let a; }", 2);
        due.faults("switch number { case 1 -> ^if add 1; }", 2);
        due.faults("switch number { case 1 -> ^yield 1; }", 2);
        due.faults("switch number { case 1 -> ^5; }", 2);
        due.faults("switch number { case 1 -> ^-5; }", 2);
        due.faults("switch number { case 1 -> ^; }", 2);
        due.faults("switch number { case 1 -> ^case 2 -> break; }", 2);
        due.faults("switch number { case 1 -> {} ^; }", 2);
        due.faults("switch number { case 1 -> add 1; ^add 2; }", 2);
        due.faults("switch number { case 1 -> add 1 ^}", 2);
        due.faults("value number { default -> ^add 1; }", 2);
        due.faults("value number { default -> ^use a; }", 2);
        due.faults("value number { default -> ^a = 1; }", 2);
        due.faults("value number { default -> ^break; }", 2);
        due.faults("value number { default -> ^yield 1; }", 2);
        due.faults("value number { default -> ^if yield 1; else yield 2; }", 2);
        due.faults("value number { default -> throw ^-1; }", 2);
        due.faults("value number { default -> - ^- 1; }", 2);
        due.faults("value number { default -> 1 ^}", 2);
    }

    private static void stmts(Due due) {
        due.reads("switch number { case 1: { { } } let a; let b = 1; if add 1; else { } a = 2; use a; throw 3; }", 1);
        due.reads("switch number { case 1: if if add 1; else add 2; else add 3; }", 1);
        due.reads("value number { default: if yield -1; else yield 1; }", 1);
        due.faults("switch number { case 1: if if add 1; else add 2; else add 3; ^else add 4; }", 2);
        due.faults("switch number { case 1: ^; }", 2);
        due.faults("switch number { case 1: {^; } }", 2);
        due.faults("switch number { case 1: { ^case 2: } }", 2);
        due.faults("switch number { case 1: { add 1; ^", 2);
        due.faults("switch number { case 1: if ^; }", 2);
        due.faults("switch number { case 1: if ^} ", 2);
        due.faults("switch number { case 1: if add 1; else ^case 2: }", 2);
        due.faults("switch number { case 1: let a ^5; }", 2);
        due.faults("switch number { case 1: let a = ^-5; }", 2);
        due.faults("switch number { case 1: let a = ^b; }", 2);
        due.faults("switch number { case 1: let ^5; }", 2);
        due.faults("switch number { case 1: let ^; }", 2);
        due.faults("switch number { case 1: let a; a ^5; }", 2);
        due.faults("switch number { case 1: let a; a = ^-5; }", 2);
        due.faults("switch number { case 1: add ^a; }", 2);
        due.faults("switch number { case 1: add 1^, }", 2);
        due.faults("switch number { case 1: use ^1; }", 2);
        due.faults("switch number { case 1: break ^1; }", 2);
        due.faults("switch number { case 1: throw ^-1; }", 2);
        due.faults("value number { default: yield ^; }", 2);
        due.faults("value number { default: yield -^; }", 2);
        due.faults("value number { default: yield -1 ^}", 2);
    }

    private static void latestPlace(Due due) {
        SwitchRules x = new SwitchRules();
        due.is("place() before", x.place(), -1);
        x.type('{', 1);
        due.is("read() of {", x.read(), -12);
        due.is("place() of {", x.place(), 0);
        due.is("read() of nothing", x.read(), -12);
        due.is("place() of nothing", x.place(), 0);
        Due.type(x, "switch number { case 1: case 2: }");
        due.is("read()", x.read(), 2);
        due.is("place() of none", x.place(), -1);
        Due.type(x, "switch number ;");
        due.is("read()", x.read(), -12);
        due.is("place()", x.place(), 14);
        Due.type(x, "switch number { case 1: }");
        due.is("place() before the next read()", x.place(), 14);
    }
}
