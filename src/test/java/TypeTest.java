/** Promises 2 and 17: THE TEXT and its HASH. */
public final class TypeTest {
    public static void main(String[] args) {
        Due due = new Due();
        octets(due);
        bounds(due);
        room(due);
        hashes(due);
        readEmpties(due);
        due.end();
    }

    private static void octets(Due due) {
        SwitchRules x = new SwitchRules();
        due.is("type(0x414243, 2)", x.type(0x414243L, 2), 2);
        due.is("hash() of BC", x.hash(), 31 * 'B' + 'C');
        due.is("type('D', 1)", x.type('D', 1), 3);
        due.is("hash() of BCD", x.hash(), "BCD".hashCode());
        due.is("type(.., 8)", x.type(0x6162636465666768L, 8), 11);
        due.is("hash() of BCDabcdefgh", x.hash(), "BCDabcdefgh".hashCode());
        due.is("type(5, 0)", x.type(5, 0), 0);
        due.is("hash() of nothing", x.hash(), 0);
        due.is("type('a', 1)", x.type('a', 1), 1);
        due.is("hash() of a", x.hash(), 'a');
    }

    private static void bounds(Due due) {
        SwitchRules x = new SwitchRules();
        x.type('a', 1);
        due.is("type(0, 9)", x.type(0, 9), -2);
        due.is("type(0, -1)", x.type(0, -1), -2);
        due.is("type(0, the least)", x.type(0, Integer.MIN_VALUE), -2);
        due.is("type(0, the most)", x.type(0, Integer.MAX_VALUE), -2);
        due.is("hash() behind refusals", x.hash(), 'a');
    }

    private static void room(Due due) {
        SwitchRules x = new SwitchRules();
        for (int i = 1; i <= 374; i++) {
            due.is("type no. " + i, x.type(-1L, 8), 8 * i);
        }
        due.is("2992 and 7", x.type(-1L, 7), 2999);
        int before = x.hash();
        due.is("2999 and 2", x.type(0, 2), -4);
        due.is("2999 and 8", x.type(0, 8), -4);
        due.is("2999 and 9", x.type(0, 9), -2);
        due.is("hash() behind refusals", x.hash(), before);
        due.is("2999 and 1", x.type('a', 1), 3000);
        due.is("3000 and 1", x.type('a', 1), -4);
        due.is("hash() of 3000", x.hash(), 31 * before + 'a');
        due.is("3000 and 0", x.type('a', 0), 0);
        due.is("room again", x.type('a', 1), 1);
    }

    private static void hashes(Due due) {
        SwitchRules x = new SwitchRules();
        x.type(0xFFL, 1);
        due.is("hash() of 255", x.hash(), 255);
        x.type(0x80L, 1);
        due.is("hash() of 255, 128", x.hash(), 255 * 31 + 128);
        Due.type(x, "polygenelubricants");
        due.is("hash() that wraps", x.hash(), Integer.MIN_VALUE);
        Due.type(x, "\0\0a");
        due.is("hash() with octets 0", x.hash(), 'a');
    }

    private static void readEmpties(Due due) {
        SwitchRules x = new SwitchRules();
        Due.type(x, "switch number { }");
        x.read();
        due.is("hash() behind read()", x.hash(), 0);
        due.is("type() behind read()", x.type('a', 1), 1);
        x.read();
        due.is("hash() behind a read() with a fault", x.hash(), 0);
        due.is("type() behind a read() with a fault", x.type('a', 1), 1);
        Due.type(x, "switch text { }");
        x.read();
        Due.type(x, "abc");
        x.run(0, 0);
        due.is("hash() behind run()", x.hash(), "abc".hashCode());
    }
}
