/** The edges of THE TEXT: promises 1, 2 and 17, its 3000 octets, and the 512 calls of an object. */
public final class EdgesOfTextTest {
    private static final int[] OUTSIDE = {-1, 9, 10, 16, 256, 264, -8, Integer.MAX_VALUE, Integer.MIN_VALUE};

    public static void main(String[] args) {
        Due due = new Due();
        nothingAtFirst(due);
        lowestOctets(due);
        highOctets(due);
        howMany(due);
        fullToTheOctet(due);
        emptied(due);
        outsideItsBounds(due);
        noRoom(due);
        firstThatFits(due);
        refusedChangesNothing(due);
        placesFromZero(due);
        lastPlace(due);
        emptyBehindRead(due);
        hashOfFew(due);
        hashThatWraps(due);
        hashOfFull(due);
        hashBesideAUnit(due);
        allCalls(due);
        due.end();
    }

    /** An object with so many octets of blanks, up to 3000. */
    private static SwitchRules filled(int octets) {
        SwitchRules x = new SwitchRules();
        Due.type(x, Due.times(octets, " "));
        return x;
    }

    private static int hashOf(int... octets) {
        int all = 0;
        for (int octet : octets) {
            all = 31 * all + octet;
        }
        return all;
    }

    private static void nothingAtFirst(Due due) {
        due.by("Promise 1: No text, no unit.");
        SwitchRules x = new SwitchRules();
        due.is("hash()", x.hash(), 0);
        due.is("place()", x.place(), -1);
        due.is("told(2)", x.told(2), -3);
        due.is("type('a', 1)", x.type('a', 1), 1);
        SwitchRules y = new SwitchRules();
        due.is("read() of no text", y.read(), -12);
        due.is("place() of no text", y.place(), 0);
    }

    private static void lowestOctets(Due due) {
        due.by("Promise 2: The n lowest octets of v, the highest first");
        String signs = "abcdefgh";
        for (int n = 1; n <= 8; n++) {
            SwitchRules x = new SwitchRules();
            due.is("type(.., " + n + ")", x.type(0x6162636465666768L, n), n);
            due.is("hash() of " + n, x.hash(), signs.substring(8 - n).hashCode());
        }
        SwitchRules y = new SwitchRules();
        y.type(0x6100L, 2);
        due.is("hash() of a and 0", y.hash(), hashOf('a', 0));
        y.type(0, 0);
        y.type(0x61L, 2);
        due.is("hash() of 0 and a", y.hash(), hashOf(0, 'a'));
        due.is("octets of 0 are octets", y.type(0, 8), 10);
    }

    private static void highOctets(Due due) {
        due.by("Promise 2: The n lowest octets of v (of 0 to 255, above them nothing)");
        SwitchRules x = new SwitchRules();
        x.type(-1L, 8);
        due.is("hash() of 8 times 255", x.hash(), hashOf(255, 255, 255, 255, 255, 255, 255, 255));
        x.type(0, 0);
        x.type(Long.MIN_VALUE, 8);
        due.is("hash() of 128 and 0s", x.hash(), hashOf(128, 0, 0, 0, 0, 0, 0, 0));
        x.type(0, 0);
        x.type(Long.MAX_VALUE, 8);
        due.is("hash() of 127 and 255s", x.hash(), hashOf(127, 255, 255, 255, 255, 255, 255, 255));
        x.type(0, 0);
        x.type(0xFFFFFFFFFFFFFF41L, 1);
        due.is("hash() of the lowest", x.hash(), 'A');
        x.type(0, 0);
        x.type(0xFF00000080L, 5);
        due.is("hash() of 255, 0, 0, 0, 128", x.hash(), hashOf(255, 0, 0, 0, 128));
        x.type(0, 0);
        x.type(0xFF00000080L, 4);
        due.is("hash() of 0, 0, 0, 128", x.hash(), 128);
    }

    private static void howMany(Due due) {
        due.by("Promise 2: come behind THE TEXT: how many it has");
        SwitchRules x = new SwitchRules();
        int all = 0;
        for (int n = 1; n <= 8; n++) {
            all += n;
            due.is("type(.., " + n + ")", x.type('a', n), all);
        }
    }

    private static void fullToTheOctet(Due due) {
        due.by("THE TEXT has at most 3000 octets");
        for (int left = 0; left <= 9; left++) {
            for (int n = 1; n <= 8; n++) {
                SwitchRules x = filled(3000 - left);
                due.is(left + " octets of room, type(.., " + n + ")", x.type(0, n), n <= left ? 3000 - left + n : -4);
            }
        }
    }

    private static void emptied(Due due) {
        due.by("Promise 2: with n = 0 it is empty: 0.");
        int[] sizes = {0, 1, 2999, 3000};
        for (int size : sizes) {
            SwitchRules x = filled(size);
            due.is(size + " octets, type(-1, 0)", x.type(-1L, 0), 0);
            due.is(size + " octets, hash()", x.hash(), 0);
            due.is(size + " octets, again", x.type(0, 0), 0);
            due.is(size + " octets, type('a', 1)", x.type('a', 1), 1);
            due.is(size + " octets, hash() of a", x.hash(), 'a');
        }
        SwitchRules y = Due.unit("switch number { case 1: add 2; }");
        y.run(1, 0);
        String before = Due.answers(y);
        y.type(0, 0);
        due.same("a unit and its run behind type(0, 0)", Due.answers(y), before);
    }

    private static void outsideItsBounds(Due due) {
        due.by("Promise 2: -2 n is not 0 .. 8");
        for (int n : OUTSIDE) {
            due.is("type(0, " + n + ")", new SwitchRules().type(0, n), -2);
        }
        for (int n = 0; n <= 8; n++) {
            due.is("type(0, " + n + ")", new SwitchRules().type(0, n), n);
        }
    }

    private static void noRoom(Due due) {
        due.by("Promise 2: -4 (no room)");
        SwitchRules x = filled(3000);
        for (int n = 1; n <= 8; n++) {
            due.is("type('a', " + n + ") to a full text", x.type('a', n), -4);
        }
        due.is("type(0, 0) to a full text", x.type(0, 0), 0);
        due.is("type('a', 8) once it is empty", x.type('a', 8), 8);
    }

    private static void firstThatFits(Due due) {
        due.by("REFUSALS: the first that fits (-2 ahead of -4)");
        SwitchRules x = filled(3000);
        for (int n : OUTSIDE) {
            due.is("type(0, " + n + ") to a full text", x.type(0, n), -2);
        }
    }

    private static void refusedChangesNothing(Due due) {
        due.by("REFUSALS change nothing (of type)");
        SwitchRules x = filled(2997);
        x.type('a', 1);
        int before = x.hash();
        for (int n = 3; n <= 8; n++) {
            due.is("2998 and " + n, x.type(-1L, n), -4);
            due.is("hash() behind it", x.hash(), before);
        }
        for (int n : OUTSIDE) {
            x.type(-1L, n);
            due.is("hash() behind type(.., " + n + ")", x.hash(), before);
        }
        due.is("there is room for 2 still", x.type(0x6263L, 2), 3000);
        due.is("hash() of all", x.hash(), 31 * (31 * before + 'b') + 'c');
    }

    private static void placesFromZero(Due due) {
        due.by("THE TEXT .. places from 0");
        due.faults("^@", 1);
        due.faults("^a", 2);
        due.faults(" ^a", 2);
        due.faults("^", 2);
    }

    private static void lastPlace(Due due) {
        due.by("THE TEXT has at most 3000 octets, places from 0 (the last is 2999, its end 3000)");
        String open = "switch number {";
        due.reads(open + Due.times(2984, " ") + "}", 0);
        due.faults(open + Due.times(2984, " ") + "^@", 1);
        due.faults(open + Due.times(2984, " ") + "^a", 2);
        due.faults(open + Due.times(2984, " ") + "^-", 2);
        due.faults(open + Due.times(2985, " ") + "^", 2);
        due.faults(open + Due.times(2983, " ") + "}^}", 2);
        due.faults(open + Due.times(2983, " ") + "}^\"", 1);
        due.reads(Due.times(2984, "\n") + open + "}", 0);
        due.faults(Due.times(2991, "\t") + "^abcdefghi", 1);
        due.faults(Due.times(2992, "\t") + "^abcdefgh", 2);
        due.faults(Due.times(2990, "\r") + "^1234567890", 1);
        due.faults(Due.times(2991, "\r") + "^123456789", 2);
    }

    private static void emptyBehindRead(Due due) {
        due.by("Promise 3: THE TEXT, which is empty then");
        SwitchRules x = filled(3000);
        due.is("read() of 3000 blanks", x.read(), -12);
        due.is("place() at the end of 3000", x.place(), 3000);
        due.is("hash()", x.hash(), 0);
        due.is("type('a', 1)", x.type('a', 1), 1);
        Due.type(x, "switch text { case \"\" -> add 5; }");
        due.is("read()", x.read(), 1);
        due.is("hash()", x.hash(), 0);
        due.runs(x, 0, 0, 1, 0, 5);
        due.is("type('a', 1)", x.type('a', 1), 1);
    }

    private static void hashOfFew(Due due) {
        due.by("Promise 17: The HASH of THE TEXT's octets (0 at first)");
        due.is("hash() of none", new SwitchRules().hash(), 0);
        for (int octet = 0; octet < 256; octet++) {
            SwitchRules x = new SwitchRules();
            x.type(octet, 1);
            due.is("hash() of " + octet, x.hash(), octet);
        }
    }

    private static void hashThatWraps(Due due) {
        due.by("HASHES: for each sign 31 times it, and the sign; 32 bits that wrap");
        String[] texts = {"aAgaAXq", "aAgaAXp", "bmgkAEr", "bmgkAEs", "bmgkAEt"};
        int[] hashes = {Integer.MIN_VALUE, Integer.MAX_VALUE, -1, 0, 1};
        SwitchRules x = new SwitchRules();
        for (int i = 0; i < texts.length; i++) {
            Due.type(x, texts[i]);
            due.is("hash() of " + texts[i], x.hash(), hashes[i]);
        }
        Due.type(x, "zzzzzz");
        due.is("hash() of zzzzzz", x.hash(), -685785664);
    }

    private static void hashOfFull(Due due) {
        due.by("Promise 17: The HASH of THE TEXT's octets (all 3000)");
        SwitchRules x = new SwitchRules();
        int want = 0;
        for (int i = 0; i < 375; i++) {
            x.type(0xFF00FE7F80010203L, 8);
            int[] octets = {255, 0, 254, 127, 128, 1, 2, 3};
            for (int octet : octets) {
                want = 31 * want + octet;
            }
        }
        due.is("hash() of 3000", x.hash(), want);
        due.is("hash() of 3000, again", x.hash(), want);
    }

    private static void hashBesideAUnit(Due due) {
        due.by("Promise 17: The HASH of THE TEXT's octets (whatever unit there is)");
        SwitchRules x = Due.unit("switch text { case \"a\" -> add 1; }");
        due.is("hash() behind read()", x.hash(), 0);
        Due.type(x, "a");
        due.is("hash() of a", x.hash(), 'a');
        x.run(0, 0);
        due.is("hash() behind run()", x.hash(), 'a');
        x.runNone();
        due.is("hash() behind runNone()", x.hash(), 'a');
    }

    private static void allCalls(Due due) {
        due.by("An object is used for at most 512 calls after it has been made");
        SwitchRules x = new SwitchRules();
        String unit = "value number { default: add 7; yield 8; }" + Due.times(2959, " ");
        for (int i = 0; i < 375; i++) {
            long v = 0;
            for (int j = 0; j < 8; j++) {
                v = (v << 8) | unit.charAt(8 * i + j);
            }
            due.is("call " + (i + 1) + ", type", x.type(v, 8), 8 * i + 8);
        }
        due.is("call 376, read()", x.read(), 1);
        for (int call = 377; call <= 511; call += 3) {
            due.is("call " + call + ", run", x.run(call, 0), 2);
            due.is("call " + (call + 1) + ", trace", x.trace(0), 7);
            due.is("call " + (call + 2) + ", value", x.value(), 8);
        }
        due.is("call 512, traced", x.traced(), 1);
    }
}
