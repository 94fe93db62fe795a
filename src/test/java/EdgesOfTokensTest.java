/** The edges of the TOKENS, each octet of 0 to 255 among them, and of FAULT 1. */
public final class EdgesOfTokensTest {
    private static final String SMALL = "abcdefghijklmnopqrstuvwxyz";
    private static final String LARGE = "ABCDEFGHIJKLMNOPQRSTUVWXYZ";
    private static final String FIGURES = "0123456789";
    private static final String BLANKS = " \t\n\r";
    private static final String SIGNS = "{}:;,=-";
    private static final String[] WORDS = {"enum", "switch", "value", "number", "text", "case", "default", "add", "let",
        "use", "break", "yield", "throw", "if", "else"};

    public static void main(String[] args) {
        Due due = new Due();
        firstOctets(due);
        octetsInNames(due);
        octetsInNumbers(due);
        octetsInTexts(due);
        lengthsOfNames(due);
        lengthsOfNumbers(due);
        lengthsOfTexts(due);
        textsWithoutEnd(due);
        arrows(due);
        passedOver(due);
        noBlanks(due);
        asManyAsItCan(due);
        wordsAreNoNames(due);
        almostWords(due);
        namesTooLong(due);
        noTokenAnywhere(due);
        due.end();
    }

    private static boolean has(String signs, char sign) {
        return signs.indexOf(sign) >= 0;
    }

    private static void firstOctets(Due due) {
        due.by("FAULTS: 1 no token begins there");
        for (char octet = 0; octet < 256; octet++) {
            if (has(BLANKS, octet)) {
                due.reads("switch number {" + octet + "}", 0);
            } else if (octet == '}') {
                due.faults("switch number {}^}", 2);
            } else if (has(SMALL + FIGURES + SIGNS, octet)) {
                due.faults("switch number {^" + octet + "}", 2);
            } else if (octet == '^') {
                due.is("read() of ^", Due.unit("switch number {^}").place(), 15);
            } else {
                due.faults("switch number {^" + octet + "}", 1);
            }
        }
    }

    /** The fault at an octet that ends the token before it. */
    private static int faultOf(char octet) {
        return has(SMALL + FIGURES + SIGNS, octet) ? 2 : 1;
    }

    private static void octetsInNames(Due due) {
        due.by("NAMES (a .. z, then a .. z, 0 .. 9");
        for (char octet = 0; octet < 256; octet++) {
            SwitchRules x = new SwitchRules();
            Due.type(x, "switch number{case 1:let a" + octet + ";}");
            boolean isIn = has(SMALL + FIGURES + BLANKS, octet);
            boolean isLater = octet == ';' || octet == '=';
            due.is("read() of let a and " + (int) octet, x.read(), isIn ? 1 : -10 - (isLater ? 2 : faultOf(octet)));
            due.is("place() of let a and " + (int) octet, x.place(), isIn ? -1 : isLater ? 27 : 26);
        }
        due.faults("switch number { case 1: let ^1a; }", 2);
        due.faults("switch number { case 1: let ^0; }", 2);
    }

    private static void octetsInNumbers(Due due) {
        due.by("NUMBERS (1 to 9 figures)");
        for (char octet = 0; octet < 256; octet++) {
            SwitchRules x = new SwitchRules();
            Due.type(x, "switch number{case 1" + octet + ":}");
            boolean isIn = has(FIGURES + BLANKS, octet);
            boolean isLater = octet == ':' || octet == ',';
            due.is("read() of 1 and " + (int) octet, x.read(), isIn ? 1 : -10 - (isLater ? 2 : faultOf(octet)));
            due.is("place() of 1 and " + (int) octet, x.place(), isIn ? -1 : isLater ? 21 : 20);
            if (has(FIGURES, octet)) {
                due.is("label(0, 1)", x.label(0, 1), 10 + octet - '0');
            }
        }
    }

    private static void octetsInTexts(Due due) {
        due.by("TEXTS (\" , then 0 to 8 of a .. z, A .. Z, 0 .. 9, then \")");
        for (char octet = 0; octet < 256; octet++) {
            SwitchRules x = new SwitchRules();
            Due.type(x, "switch text{case \"a" + octet + "\":}");
            boolean isIn = has(SMALL + LARGE + FIGURES, octet);
            due.is("read() of a text with " + (int) octet, x.read(), isIn ? 1 : -11);
            due.is("place() of a text with " + (int) octet, x.place(), isIn ? -1 : octet == '"' ? 20 : 17);
            if (isIn) {
                due.is("label(0, 1)", x.label(0, 1), 31 * 'a' + octet);
            }
        }
    }

    /** Of n signs a .. z and 0 .. 9, a letter first. */
    private static String name(int n) {
        return "z9a0b1c2d3e4f5".substring(0, n);
    }

    private static void lengthsOfNames(Due due) {
        due.by("NAMES (.. at most 8)");
        for (int n = 1; n <= 8; n++) {
            due.reads("enum " + name(n) + " { b } switch " + name(n) + " {}", 0);
            due.reads("enum b { " + name(n) + " } switch b { case " + name(n) + ": }", 1);
            due.reads("switch number { case 1: let " + name(n) + "; " + name(n) + " = 1; use " + name(n) + "; }", 1);
        }
        for (int n = 9; n <= 14; n++) {
            due.by("FAULTS: 1 .. or it is too long (a NAME of 9 signs)");
            due.faults("enum ^" + name(n) + " { b } switch b {}", 1);
            due.faults("enum b { ^" + name(n) + " } switch b {}", 1);
            due.faults("enum b { c } switch ^" + name(n) + " {}", 1);
            due.faults("enum b { c } switch b { case ^" + name(n) + ": }", 1);
            due.faults("switch number { case 1: let ^" + name(n) + "; }", 1);
            due.faults("switch number { case 1: ^" + name(n) + " = 1; }", 1);
            due.faults("switch number { case 1: use ^" + name(n) + "; }", 1);
            due.faults("^" + name(n), 1);
        }
        due.by("NAMES (.. at most 8, told apart by all of their signs)");
        due.reads("enum abcdefgh { a } enum abcdefg { a } enum abcdefgi { a } switch abcdefgi { case a: }", 1);
        due.reads("switch number { case 1: let a2345678; let a2345679; let a234567; let a; }", 1);
        due.faults("switch number { case 1: let a2345678; let ^a2345678; }", 6);
    }

    private static void lengthsOfNumbers(Due due) {
        due.by("NUMBERS (1 to 9 figures)");
        String figures = "987654321";
        int[] numbers = {9, 98, 987, 9876, 98765, 987654, 9876543, 98765432, 987654321};
        for (int n = 1; n <= 9; n++) {
            String number = figures.substring(0, n);
            SwitchRules x = Due.unit("switch number { case " + number + " -> add " + number + "; }");
            due.is("label(0, 1) of " + number, x.label(0, 1), numbers[n - 1]);
            due.runs(x, numbers[n - 1], 0, 1, 0, numbers[n - 1]);
        }
        due.is("label(0, 1) of 9 noughts", Due.unit("switch number { case 000000000: }").label(0, 1), 0);
        due.is("label(0, 1) of 000000001", Due.unit("switch number { case 000000001: }").label(0, 1), 1);
        due.is("label(0, 1) of -999999999", Due.unit("switch number { case -999999999: }").label(0, 1), -999999999);
        due.by("FAULTS: 1 .. or it is too long (a NUMBER of 10 figures)");
        String[] tooLong = {"1000000000", "0000000000", "0000000001", "12345678901", "4294967297"};
        for (String number : tooLong) {
            due.faults("switch number { case ^" + number + ": }", 1);
            due.faults("switch number { case -^" + number + ": }", 1);
            due.faults("switch number { case 1: add ^" + number + "; }", 1);
            due.faults("switch number { case 1: throw ^" + number + "; }", 1);
            due.faults("switch number { case 1: let a = ^" + number + "; }", 1);
            due.faults("switch number { case 1: let a; a = ^" + number + "; }", 1);
            due.faults("value number { default: yield ^" + number + "; }", 1);
            due.faults("value number { default: yield -^" + number + "; }", 1);
            due.faults("value number { default -> ^" + number + "; }", 1);
            due.faults("value number { default -> -^" + number + "; }", 1);
        }
    }

    private static void lengthsOfTexts(Due due) {
        due.by("TEXTS (\" , then 0 to 8 of ..)");
        for (int n = 0; n <= 8; n++) {
            String text = "zZ9aA0bB".substring(0, n);
            SwitchRules x = Due.unit("switch text { case \"" + text + "\" -> add 1; }");
            due.is("label(0, 1) of " + text, x.label(0, 1), text.hashCode());
            Due.type(x, text);
            due.runs(x, 0, 0, 1, 0, 1);
        }
        due.by("FAULTS: 1 .. or it is too long (a TEXT of 9 signs)");
        due.faults("switch text { case ^\"zZ9aA0bB1\": }", 1);
        due.faults("switch text { case ^\"zZ9aA0bB12\": }", 1);
        due.faults("switch text { case ^\"000000000\": }", 1);
        due.faults("switch text { case ^\"" + Due.times(2900, "a") + "\": }", 1);
    }

    private static void textsWithoutEnd(Due due) {
        due.by("TEXTS (.. then \")");
        for (int n = 0; n <= 9; n++) {
            due.faults("switch text { case ^\"" + "zZ9aA0bB1".substring(0, n), 1);
        }
        due.faults("switch text { case \"\"^\"", 1);
        due.faults("switch text { case \"a\"^\"b\": }", 2);
        due.faults("switch text { case \"a\"^b: }", 2);
        due.faults("switch text { case ^\"a\n\": }", 1);
        due.faults("switch text { case ^\" a\": }", 1);
        due.faults("switch text { case ^\"a \": }", 1);
    }

    private static void arrows(Due due) {
        due.by("the signs { } : ; , = - ->");
        due.reads("switch number{case 1->break;}", 1);
        due.reads("switch number{case-1->break;}", 1);
        due.reads("value number{default->-1;}", 1);
        due.faults("switch number { case 1 ^- > break; }", 2);
        due.faults("switch number { case 1 ^-\n> break; }", 2);
        due.faults("switch number { case 1 ^> break; }", 1);
        due.faults("switch number { case 1 ->^> break; }", 1);
        due.faults("switch number { case -^-> break; }", 2);
        due.faults("switch number { case 1 ->^-> break; }", 2);
        due.faults("value number { default -> ^-> 1; }", 2);
        due.faults("switch number { case 1 ->^", 2);
        due.faults("switch number { case 1 ^-", 2);
        due.faults("switch number { case 1: let a =^= 1; }", 2);
        due.faults("switch number { case 1:^: }", 2);
    }

    private static void passedOver(Due due) {
        due.by("32, 9, 10, 13 are passed over");
        String unit = "enum a { b , c } value a { case b , c : let x = 1 ; use x ; default : yield - 2 ; }";
        String[] blanks = {" ", "\t", "\n", "\r", "\r\n", " \t\n\r \t\n\r"};
        for (String blank : blanks) {
            String text = blank + unit.replace(" ", blank) + blank;
            due.reads(text, 2);
            due.faults(text + "^@", 1);
            due.faults(text + blank + "^}" + blank, 2);
        }
        due.by("FAULTS: 1 no token begins there (no other octet is passed over)");
        char[] others = {0, 8, 11, 12, 14, 31, 33, 127, 128, 133, 160, 255};
        for (char other : others) {
            due.faults("switch^" + other + "number {}", 1);
            due.faults("^" + other + "switch number {}", 1);
            due.faults("switch number {}^" + other, 1);
        }
    }

    private static void noBlanks(Due due) {
        due.by("32, 9, 10, 13 are passed over (and need not be there)");
        due.reads("enum a{b,c}value a{case b,c:let x=1;use x;if{}else{x=2;}default:yield-2;}", 2);
        due.reads("switch text{case\"\",\"a\"->{}default->break;}", 2);
    }

    private static void asManyAsItCan(Due due) {
        due.by("A token takes as many octets as it can.");
        due.faults("^switchn {}", 2);
        due.faults("^switch1 {}", 2);
        due.faults("switch number { ^case1: }", 2);
        due.faults("switch number { ^casea: }", 2);
        due.faults("switch number { ^default1: }", 2);
        due.faults("switch number { case 1: ^add1; }", 7);
        due.faults("switch number { case 1: ^breaks; }", 7);
        due.faults("switch number { case 1: add 1^add 2; }", 2);
        due.reads("switch number { case 1: if add 1;else add 2; }", 1);
        due.faults("switch number { case 1: if add 1; ^elseadd 2; }", 7);
        due.reads("switch number { case 12: case 1: case 2: }", 3);
        due.faults("switch number { case 1 ^2: }", 2);
        due.faults("switch number { case 1: let a; ^b = 1; }", 7);
        due.faults("switch number { case 1: let a; let ab; let ^ab; }", 6);
    }

    private static void wordsAreNoNames(Due due) {
        due.by("WORDS, which are no NAMES");
        for (String word : WORDS) {
            due.faults("enum ^" + word + " { a } switch a {}", 2);
            due.faults("enum a { ^" + word + " } switch a {}", 2);
            due.faults("enum a { b, ^" + word + " } switch a {}", 2);
            due.faults("enum a { b } switch a { case ^" + word + ": }", 2);
            due.faults("enum a { b } switch a { case b, ^" + word + ": }", 2);
            due.faults("switch number { case 1: let ^" + word + "; }", 2);
            due.faults("switch number { case 1: use ^" + word + "; }", 2);
            if (!word.equals("number") && !word.equals("text")) {
                due.faults("switch ^" + word + " {}", 2);
            }
        }
        String[] noStmts = {"enum", "switch", "value", "number", "text", "else"};
        for (String word : noStmts) {
            due.faults("switch number { case 1: ^" + word + " = 1; }", 2);
        }
    }

    private static void almostWords(Due due) {
        due.by("WORDS, which are no NAMES (what has a sign more or less is one)");
        for (String word : WORDS) {
            String less = word.substring(0, word.length() - 1);
            String more = word + "0";
            due.reads("enum " + less + " { " + more + " } switch " + less + " { case " + more + ": }", 1);
            due.reads("switch number { case 1: let " + less + "; let " + more + " = 1; use " + more + "; }", 1);
        }
    }

    private static void namesTooLong(Due due) {
        due.by("FAULTS: 1 .. or it is too long (with a WORD at its beginning, too)");
        due.faults("^switchnumber {}", 1);
        due.faults("enum a { b } ^valueabcd a {}", 1);
        due.faults("switch number { ^default00: }", 1);
        due.faults("switch number { case 1: ^breakbrea; }", 1);
        due.faults("switch number { case 1: if add 1; ^elseelsee add 1; }", 1);
    }

    private static void noTokenAnywhere(Due due) {
        due.by("FAULTS, the first in THE TEXT (at a token's first octet ..): 1 no token begins there");
        for (String unit : Due.UNITS) {
            String[] tokens = unit.split(" ");
            String before = "";
            for (int i = 0; i < tokens.length; i++) {
                due.faults(before + "^@ " + unit.substring(before.length()), 1);
                due.faults(before + "^abcdefghi", 1);
                due.faults(before + "^1234567890", 1);
                due.faults(before + "^\"", 1);
                before = before + tokens[i] + " ";
            }
            due.faults(unit + " ^@", 1);
        }
    }
}
