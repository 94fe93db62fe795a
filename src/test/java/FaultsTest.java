/** Promises 3 and 4: faults 3 to 5 and 8 to 11, and which of several comes first. */
public final class FaultsTest {
    public static void main(String[] args) {
        Due due = new Due();
        twice(due);
        mixed(due);
        sorts(due);
        sortsOfMinus(due);
        leaves(due);
        reached(due);
        fallenOff(due);
        exhaustive(due);
        leastOfOneToken(due);
        due.end();
    }

    private static void twice(Due due) {
        due.faults("switch number { case 1, ^1: }", 3);
        due.faults("switch number { case 1: case 2, ^001: }", 3);
        due.faults("switch number { case -1: case ^-1: }", 3);
        due.faults("switch number { case -0: case ^0: }", 3);
        due.faults("switch number { case 0: case ^-0: }", 3);
        due.faults("switch number { case 0 -> break; case 1, ^- 00 -> break; }", 3);
        due.reads("switch number { case -1: case 1: }", 2);
        due.faults("switch text { case \"Aa\", \"BB\", ^\"Aa\": }", 3);
        due.faults("switch text { case \"\": case ^\"\": }", 3);
        due.reads("switch text { case \"Aa\", \"BB\", \"aa\", \"a\", \"0\", \"00\", \"\": }", 1);
        due.faults("enum a { b, c } switch a { case b: case c, ^b: }", 3);
        due.faults("switch number { default: case 1: ^default: }", 3);
        due.faults("switch number { default -> break; ^default: }", 3);
        due.faults("enum a { b } enum c { b } enum ^a { b } switch a {}", 3);
        due.faults("enum a { b, c, ^b } switch a {}", 3);
        due.reads("enum a { a } switch a { case a: let a; }", 1);
    }

    private static void mixed(Due due) {
        due.faults("switch number { case 1: case 2 ^-> break; }", 4);
        due.faults("switch number { case 1 -> break; default^: }", 4);
        due.faults("switch number { case 1: case 2: add 1; case 3 ^-> }", 4);
        due.faults("value number { default -> 1; case 2^: yield 1; }", 4);
    }

    private static void sorts(Due due) {
        due.faults("switch number { case 1, ^\"1\": }", 5);
        due.faults("switch number { case ^a: }", 5);
        due.faults("switch text { case ^5: }", 5);
        due.faults("switch text { case ^-5: }", 5);
        due.faults("switch text { case ^a: }", 5);
        due.faults("enum a { b } switch a { case ^0: }", 5);
        due.faults("enum a { b } switch a { case ^\"b\": }", 5);
        due.faults("enum a { b } switch a { case ^a: }", 5);
        due.faults("enum a { b } enum c { d } switch a { case b, ^d: }", 5);
        due.faults("enum a { b } switch number { case ^b: }", 5);
        due.faults("switch ^a {}", 5);
        due.faults("enum a { b } switch ^b {}", 5);
        due.reads("enum a { b } enum c { b, d } switch c { case d, b: }", 1);
    }

    /** A label that begins with - is none of texts or constants, whatever is behind the -. */
    private static void sortsOfMinus(Due due) {
        String[] behind = { "a", "b", "1", "\"a\"", "\"\"", "-", "->", ":", ",", ";", "{", "}", "=", "case", "default",
            "", " ", "@", "- @", "1234567890", "abcdefghi", "\"", "\"123456789\"", ">" };
        for (String token : behind) {
            due.faults("switch text{case^- " + token, 5);
            due.faults("value text { case \"a\", ^- " + token + ": yield 1; }", 5);
            due.faults("switch text { case \"a\" -> break; case ^-\t" + token + " -> break; }", 5);
            due.faults("enum a { b, c } switch a { case ^- " + token + ": }", 5);
            due.faults("enum a { b, c } value a { default: yield 1; case b, ^- " + token, 5);
        }
        due.faults("switch text{case^-a ", 5);
        due.faults("switch text { case ^-\"a\": }", 5);
        due.faults("enum a { b } switch a { case ^-b: }", 5);
        due.faults("switch text { case ^->: }", 2);
        due.faults("switch text { default^-: }", 2);
        due.faults("switch text { case \"a\" ^-1: }", 2);
    }

    private static void leaves(Due due) {
        due.faults("value number { default: ^break; }", 8);
        due.faults("value number { default -> { if ^break; yield 1; } }", 8);
        due.faults("switch number { default: ^yield 1; }", 8);
        due.faults("switch number { default -> { { ^yield 1; } } }", 8);
    }

    private static void reached(Due due) {
        due.faults("switch number { case 1: break; ^add 2; }", 9);
        due.faults("switch number { case 1: throw 1; ^{ } }", 9);
        due.faults("switch number { case 1: break; ^if add 1; }", 9);
        due.faults("switch number { case 1: break; ^let a; }", 9);
        due.faults("switch number { case 1: break; ^break; }", 9);
        due.faults("value number { default: yield 1; ^throw 1; }", 9);
        due.faults("switch number { case 1: { { break; } } ^add 1; }", 9);
        due.faults("switch number { case 1: { if break; else { add 1; throw 2; } ^add 1; } }", 9);
        due.faults("switch number { case 1 -> { break; ^add 1; } }", 9);
        due.reads("switch number { case 1: if break; add 1; }", 1);
        due.reads("switch number { case 1: if break; else add 1; add 2; }", 1);
        due.reads("switch number { case 1: if add 1; else break; add 2; }", 1);
        due.reads("switch number { case 1: if { } else break; add 2; }", 1);
        due.reads("switch number { case 1: if if break; else break; else { if break; } add 2; }", 1);
        due.reads("switch number { case 1: break; case 2: add 2; }", 2);
        due.reads("switch number { case 1: { } add 2; }", 1);
    }

    private static void fallenOff(Due due) {
        due.faults("value number { default: ^}", 10);
        due.faults("value number { default: add 1; ^}", 10);
        due.faults("value number { case 1: yield 1; default: if yield 1; ^}", 10);
        due.faults("value number { default: yield 1; case 1: { } ^}", 10);
        due.reads("value number { default: add 1; case 1: case 2: { throw 1; } }", 3);
        due.reads("value number { default: if yield 1; else { throw 2; } }", 1);
        due.faults("value number { default -> { ^} }", 10);
        due.faults("value number { default -> { add 1; ^} }", 10);
        due.faults("value number { case 1 -> { { yield 1; } } case 2 -> { if yield 1; ^} default -> 1; }", 10);
        due.reads("value number { default -> { { } { add 1; } { yield 1; } } }", 1);
        due.reads("switch number { default -> { add 1; } }", 1);
    }

    private static void exhaustive(Due due) {
        due.faults("value number {^}", 11);
        due.faults("value text { case \"a\": yield 1; ^}", 11);
        due.faults("value number { case 1 -> 1; ^}", 11);
        due.faults("enum a { b, c } value a {^}", 11);
        due.faults("enum a { b, c } value a { case c: yield 1; ^}", 11);
        due.reads("enum a { b, c } value a { case c: case b: yield 1; }", 2);
        due.reads("enum a { b, c } value a { case c -> 1; default -> 2; }", 2);
        due.reads("enum a { b, c } value a { default -> 2; }", 1);
        due.reads("enum a { b } enum c { d, e, f } value a { case b -> throw 1; }", 1);
        due.reads("switch number { case 1: }", 1);
        due.reads("enum a { b, c } switch a { case c: }", 1);
    }

    private static void leastOfOneToken(Due due) {
        due.faults("switch number { case 1: break; ^yield 1; }", 8);
        due.faults("switch number { case 1: break; ^a = 1; }", 7);
        due.faults("switch number { case 1: let a; break; ^a = 1; }", 9);
        due.faults("switch number { case 1: break; ^use b; }", 9);
        due.faults("switch number { case 1: break; ^add @; }", 9);
        due.faults("switch number { case 1: ^a @; }", 7);
        due.faults("value number { case 1: ^}", 10);
        due.faults("value text { case \"a\", ^5: }", 5);
        due.faults("switch number { case 1, ^1 @ }", 3);
        due.faults("switch number { case 1: case -^1234567890: }", 1);
    }
}
