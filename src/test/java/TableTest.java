/** Promises 12 to 16: the form, the keys, their targets and how many labels share one. */
public final class TableTest {
    public static void main(String[] args) {
        Due due = new Due();
        numbers(due);
        texts(due);
        constants(due);
        edges(due);
        spans(due);
        due.end();
    }

    private static void table(Due due, SwitchRules x, int form, int[] keys, int[] targets, int[] alikes) {
        due.is("form()", x.form(), form);
        due.is("keys()", x.keys(), keys.length);
        for (int i = 0; i < keys.length; i++) {
            due.is("key(" + i + ")", x.key(i), keys[i]);
            due.is("target(" + i + ")", x.target(i), targets[i]);
            due.is("alike(" + i + ")", x.alike(i), alikes[i]);
        }
        int[] none = {-1, keys.length, 32, Integer.MAX_VALUE, Integer.MIN_VALUE};
        for (int i : none) {
            due.is("key(" + i + ")", x.key(i), 0);
            due.is("target(" + i + ")", x.target(i), -1);
            due.is("alike(" + i + ")", x.alike(i), -1);
        }
    }

    private static void numbers(Due due) {
        table(due, Due.unit("switch number {}"), 2, new int[0], new int[0], new int[0]);
        table(due, Due.unit("switch number { default: }"), 2, new int[0], new int[0], new int[0]);
        table(due, Due.unit("switch number { default: case 5, -7: case 2: case 3, 4: }"), 1,
            new int[] {-7, 2, 3, 4, 5}, new int[] {1, 2, 3, 3, 1}, new int[] {1, 1, 1, 1, 1});
        table(due, Due.unit("switch number { case 3 -> break; case 2 -> break; case 1 -> break; }"), 1,
            new int[] {1, 2, 3}, new int[] {2, 1, 0}, new int[] {1, 1, 1});
        SwitchRules x = Due.unit("switch number { case 1, 2, 3: }");
        Due.type(x, "switch number { case 9: }");
        x.read();
        table(due, x, 2, new int[] {9}, new int[] {0}, new int[] {1});
    }

    private static void texts(Due due) {
        table(due, Due.unit("switch text { case \"x\": case \"BB\": case \"C\", \"Aa\": }"), 2,
            new int[] {'C', 'x', 2112}, new int[] {2, 0, 1}, new int[] {1, 1, 2});
        table(due, Due.unit("switch text { case \"AaAa\", \"BBBB\": case \"AaBB\": case \"BBAa\", \"\": }"), 2,
            new int[] {0, "AaAa".hashCode()}, new int[] {2, 0}, new int[] {1, 4});
        table(due, Due.unit("switch text { case \"a\": case \"c\": case \"b\": }"), 1,
            new int[] {'a', 'b', 'c'}, new int[] {0, 2, 1}, new int[] {1, 1, 1});
        int below = "zzzzzzzz".hashCode();
        int above = "aaaaaaaa".hashCode();
        table(due, Due.unit("switch text { case \"zzzzzzzz\": case \"aaaaaaaa\": }"), 2,
            new int[] {Math.min(below, above), Math.max(below, above)},
            below < above ? new int[] {0, 1} : new int[] {1, 0}, new int[] {1, 1});
    }

    private static void constants(Due due) {
        table(due, Due.unit("enum a { b, c, d, e } switch a { case e, b: case d: }"), 1,
            new int[] {0, 2, 3}, new int[] {0, 1, 0}, new int[] {1, 1, 1});
        table(due, Due.unit("enum a { b, c, d, e } switch a { case d: default: case e: }"), 2,
            new int[] {2, 3}, new int[] {0, 2}, new int[] {1, 1});
    }

    /** n keys fit a span of 5 n - 10 at most. */
    private static void edges(Due due) {
        form(due, "1", 2);
        form(due, "1, 2", 2);
        form(due, "1, 2, 5", 1);
        form(due, "1, 2, 6", 2);
        form(due, "-2, -1, 2", 1);
        form(due, "-2, -1, 3", 2);
        form(due, "1, 2, 3, 10", 1);
        form(due, "1, 2, 3, 11", 2);
        form(due, Due.numbered(31, "", "", ", ") + ", 149", 1);
        form(due, Due.numbered(31, "", "", ", ") + ", 150", 2);
    }

    private static void form(Due due, String labels, int want) {
        due.is("form() of " + labels, Due.unit("switch number { case " + labels + ": }").form(), want);
    }

    /** Spans that wrap in 32 bits would look small or below 0. */
    private static void spans(Due due) {
        form(due, "-999999999, 0, 999999999", 2);
        String below = textBelow(-1500000000);
        String above = textAbove(1500000000);
        SwitchRules x = Due.unit("switch text { case \"" + above + "\", \"a\", \"" + below + "\": }");
        table(due, x, 2, new int[] {below.hashCode(), 'a', above.hashCode()}, new int[] {0, 0, 0}, new int[] {1, 1, 1});
    }

    private static String textBelow(int bound) {
        String text = "aaaaaaa";
        for (int i = 0; text.hashCode() >= bound; i++) {
            text = "q" + Integer.toString(1000000 + 7919 * i);
        }
        return text;
    }

    private static String textAbove(int bound) {
        String text = "aaaaaaa";
        for (int i = 0; text.hashCode() <= bound; i++) {
            text = "w" + Integer.toString(1000000 + 7919 * i);
        }
        return text;
    }
}
