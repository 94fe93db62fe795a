/** The edges of the KEYS, of TABLE and LOOK-UP, and of promises 12 to 16. */
public final class EdgesOfTablesTest {
    private static final int[] NO_KEYS = {-1, -2, 32, 33, Integer.MAX_VALUE, Integer.MIN_VALUE};

    public static void main(String[] args) {
        Due due = new Due();
        noKeys(due);
        keysOfNumbers(due);
        keysOfConstants(due);
        keysOfTexts(due);
        keysThatWrap(due);
        eachOnce(due);
        asTheyRise(due);
        mostKeys(due);
        fewKeys(due);
        widestTables(due);
        widestOfConstants(due);
        exactSpans(due);
        spansOfKeysAlone(due);
        targets(due);
        targetOfTheFirst(due);
        allAlike(due);
        noUnit(due);
        noneSuch(due);
        tablesOfTheLatestUnit(due);
        due.end();
    }

    /** Whether the keys, targets and counts are these, and nothing is behind them. */
    private static void table(Due due, String unit, int[] keys, int[] targets, int[] alikes) {
        SwitchRules x = Due.unit(unit);
        due.is("keys() of " + unit, x.keys(), keys.length);
        for (int i = 0; i < keys.length; i++) {
            due.is("key(" + i + ") of " + unit, x.key(i), keys[i]);
            due.is("target(" + i + ") of " + unit, x.target(i), targets[i]);
            due.is("alike(" + i + ") of " + unit, x.alike(i), alikes[i]);
        }
        due.is("key() behind the last of " + unit, x.key(keys.length), 0);
        due.is("target() behind the last of " + unit, x.target(keys.length), -1);
        due.is("alike() behind the last of " + unit, x.alike(keys.length), -1);
    }

    private static void form(Due due, String unit, int want) {
        due.is("form() of " + unit, Due.unit(unit).form(), want);
    }

    private static String numbers(String labels) {
        return "switch number { case " + labels + ": }";
    }

    private static int[] ints(int... all) {
        return all;
    }

    private static void noKeys(Due due) {
        due.by("a TABLE, if n is above 0 .. else a LOOK-UP (no KEYS)");
        String[] units = {"switch number {}", "switch number { default: }", "switch text {}", "value text { default -> 1; }",
            "enum e { k } switch e {}", "enum e { k, l } value e { default -> 1; }"};
        for (String unit : units) {
            form(due, unit, 2);
            table(due, unit, ints(), ints(), ints());
        }
    }

    private static void keysOfNumbers(Due due) {
        due.by("KEYS: of labels of numbers these");
        table(due, numbers("999999999, -999999999, 0, -1, 1"), ints(-999999999, -1, 0, 1, 999999999),
            ints(0, 0, 0, 0, 0), ints(1, 1, 1, 1, 1));
        table(due, numbers("-0"), ints(0), ints(0), ints(1));
        table(due, numbers("000000007"), ints(7), ints(0), ints(1));
    }

    private static void keysOfConstants(Due due) {
        due.by("KEYS: .. of constants their places (from 0)");
        String names = Due.numbered(16, "k", "", ", ");
        for (int i = 0; i < 16; i++) {
            table(due, "enum d { k15 } enum e { " + names + " } switch e { case k" + i + ": }", ints(i), ints(0), ints(1));
        }
        table(due, "enum e { k, l, m } switch e { case m: case k: }", ints(0, 2), ints(1, 0), ints(1, 1));
    }

    private static void keysOfTexts(Due due) {
        due.by("KEYS: .. of texts their HASHES (0 at first; for each sign 31 times it, and the sign ..)");
        table(due, "switch text { case \"\": }", ints(0), ints(0), ints(1));
        table(due, "switch text { case \"0\": }", ints(48), ints(0), ints(1));
        table(due, "switch text { case \"z\": }", ints(122), ints(0), ints(1));
        table(due, "switch text { case \"ab\": }", ints(31 * 97 + 98), ints(0), ints(1));
        table(due, "switch text { case \"abc\": }", ints(96354), ints(0), ints(1));
    }

    private static void keysThatWrap(Due due) {
        due.by("KEYS: .. of texts their HASHES (.. 32 bits that wrap)");
        table(due, "switch text { case \"zzzzzz\": }", ints(-685785664), ints(0), ints(1));
        table(due, "switch text { case \"zzzzzzzz\": }", ints("zzzzzzzz".hashCode()), ints(0), ints(1));
        table(due, "switch text { case \"aAgaAXp\": case \"aAgaAXq\": }",
            ints(Integer.MIN_VALUE, Integer.MAX_VALUE), ints(1, 0), ints(1, 1));
        table(due, "switch text { case \"bmgkAEr\": case \"bmgkAEq\": case \"bmgkAEp\": case \"bmgkAEo\": }",
            ints(-4, -3, -2, -1), ints(3, 2, 1, 0), ints(1, 1, 1, 1));
    }

    private static void eachOnce(Due due) {
        due.by("KEYS: .. each once");
        table(due, "switch text { case \"Aa\", \"BB\": }", ints(2112), ints(0), ints(2));
        table(due, "switch text { case \"\": case \"bmgkAEs\": }", ints(0), ints(0), ints(2));
        table(due, "switch text { case \"AaBB\": case \"Aa\": case \"BBAa\": case \"BB\": case \"BBBB\": case \"AaAa\": }",
            ints(2112, "AaAa".hashCode()), ints(1, 0), ints(2, 4));
    }

    private static void asTheyRise(Due due) {
        due.by("KEYS: .. as they rise; Promise 14: KEY i, from 0, as they rise.");
        String[] orders = {"1, 2, 3", "1, 3, 2", "2, 1, 3", "2, 3, 1", "3, 1, 2", "3, 2, 1"};
        for (String order : orders) {
            table(due, numbers(order), ints(1, 2, 3), ints(0, 0, 0), ints(1, 1, 1));
        }
        table(due, numbers("1, -1, 0, -10, 10, -9"), ints(-10, -9, -1, 0, 1, 10), new int[6], ints(1, 1, 1, 1, 1, 1));
        table(due, "switch text { case \"aAgaAXp\": case \"\": case \"bmgkAEr\": case \"bmgkAEt\": case \"aAgaAXq\": }",
            ints(Integer.MIN_VALUE, -1, 0, 1, Integer.MAX_VALUE), ints(4, 2, 1, 3, 0), ints(1, 1, 1, 1, 1));
    }

    private static void mostKeys(Due due) {
        due.by("Promise 13: How many KEYS there are. (32 at the most)");
        for (int n = 1; n <= 32; n++) {
            StringBuilder labels = new StringBuilder();
            for (int i = n - 1; i >= 0; i--) {
                labels.append(i == n - 1 ? "" : ", ").append(10 * i);
            }
            SwitchRules x = Due.unit(numbers(labels.toString()));
            due.is("keys() of " + n, x.keys(), n);
            due.is("the first of " + n, x.key(0), 0);
            due.is("the last of " + n, x.key(n - 1), 10 * (n - 1));
            due.is("the one behind it", x.key(n), 0);
            due.is("the target of the last", x.target(n - 1), 0);
            due.is("the target behind it", x.target(n), -1);
            due.is("how many are as the last", x.alike(n - 1), 1);
            due.is("how many behind it", x.alike(n), -1);
        }
    }

    private static void fewKeys(Due due) {
        due.by("a TABLE, if .. 4 + (h - l + 1) + 9 is at most 3 + 2 n + 3 n (1 or 2 KEYS are too few)");
        form(due, numbers("0"), 2);
        form(due, numbers("5"), 2);
        form(due, numbers("-5"), 2);
        form(due, numbers("0, 1"), 2);
        form(due, numbers("-1, 0"), 2);
        form(due, "enum e { k } switch e { case k: }", 2);
        form(due, "enum e { k, l } switch e { case k, l: }", 2);
        form(due, "enum e { k, l, m } switch e { case k, l, m: }", 1);
        form(due, "switch text { case \"\": }", 2);
        form(due, "switch text { case \"a\", \"b\", \"c\": }", 1);
    }

    /** n keys of which the last makes the span this wide. */
    private static String spanned(int n, int first, int span) {
        StringBuilder labels = new StringBuilder();
        for (int i = 0; i < n - 1; i++) {
            labels.append(first + i).append(", ");
        }
        return numbers(labels.append(first + span - 1).toString());
    }

    private static void widestTables(Due due) {
        due.by("a TABLE, if .. 4 + (h - l + 1) + 9 is at most 3 + 2 n + 3 n, else a LOOK-UP");
        for (int n = 3; n <= 32; n++) {
            form(due, spanned(n, 0, 5 * n - 11), 1);
            form(due, spanned(n, 0, 5 * n - 10), 1);
            form(due, spanned(n, 0, 5 * n - 9), 2);
            form(due, spanned(n, -77, 5 * n - 10), 1);
            form(due, spanned(n, -77, 5 * n - 9), 2);
            form(due, spanned(n, 999999999 - 5 * n + 11, 5 * n - 10), 1);
            form(due, spanned(n, 999999999 - 5 * n + 10, 5 * n - 9), 2);
            form(due, spanned(n, -999999999, 5 * n - 10), 1);
            form(due, spanned(n, -999999999, 5 * n - 9), 2);
        }
    }

    private static void widestOfConstants(Due due) {
        due.by("With n KEYS from l to h: a TABLE .. (places of constants)");
        String enumeration = "enum e { " + Due.numbered(16, "k", "", ", ") + " } switch e { case ";
        form(due, enumeration + "k0, k1, k4: }", 1);
        form(due, enumeration + "k0, k1, k5: }", 2);
        form(due, enumeration + "k11, k12, k15: }", 1);
        form(due, enumeration + "k10, k12, k15: }", 2);
        form(due, enumeration + "k0, k1, k2, k9: }", 1);
        form(due, enumeration + "k0, k1, k2, k10: }", 2);
        form(due, enumeration + "k0, k1, k2, k3, k14: }", 1);
        form(due, enumeration + "k0, k1, k2, k3, k15: }", 2);
        form(due, enumeration + "k0, k1, k2, k3, k4, k15: }", 1);
    }

    private static void exactSpans(Due due) {
        due.by("(All exactly.) (spans that 32 bits can't hold)");
        form(due, numbers("-999999999, 0, 999999999"), 2);
        form(due, "switch text { case \"aAgaAXq\", \"aAgaAXp\", \"\": }", 2);
        form(due, "switch text { case \"aAgaAXq\", \"aAgaAXp\", \"GycxgA\": }", 2);
        form(due, "switch text { case \"aAgaAXq\", \"\", \"bmgkAEr\", \"bmgkAEt\": }", 2);
        form(due, "switch text { case \"aAgaAXp\", \"\", \"bmgkAEr\", \"bmgkAEt\": }", 2);
        form(due, "switch text { case \"bmgkAEr\", \"bmgkAEs\", \"bmgkAEt\": }", 1);
        form(due, "switch text { case \"bmgkAEp\", \"bmgkAEs\", \"bmgkAEt\": }", 1);
        form(due, "switch text { case \"bmgkAEo\", \"bmgkAEs\", \"bmgkAEt\": }", 2);
    }

    private static void spansOfKeysAlone(Due due) {
        due.by("With n KEYS (each once: texts with one HASH are one of them)");
        form(due, "switch text { case \"Aa\", \"BB\", \"Ab\": }", 2);
        form(due, "switch text { case \"Aa\", \"BB\", \"Ab\", \"BC\": }", 2);
        form(due, "switch text { case \"Aa\", \"BB\", \"Ab\", \"BC\", \"Ac\": }", 1);
        due.by("With n KEYS (a default is none)");
        form(due, "switch number { case 1, 2: default: }", 2);
        form(due, "switch number { default: case 1, 2, 5: }", 1);
    }

    private static void targets(Due due) {
        due.by("Promise 15: The TARGET of KEY i. (the arm of its label)");
        table(due, "switch number { default: case 9: case 7, 5: case 8: case 6: }", ints(5, 6, 7, 8, 9),
            ints(2, 4, 2, 3, 1), ints(1, 1, 1, 1, 1));
        SwitchRules x = Due.unit("switch number { " + Due.numbered(19, "case ", ": ", "") + "case 19, -1: }");
        due.is("target(0) of 20 arms", x.target(0), 19);
        for (int i = 0; i < 20; i++) {
            due.is("target(" + (i + 1) + ") of 20 arms", x.target(i + 1), i);
        }
    }

    private static void targetOfTheFirst(Due due) {
        due.by("The TARGET of a KEY: .. of texts with one HASH that of the first label, in the order of THE TEXT");
        table(due, "switch text { case \"BB\": case \"Aa\": }", ints(2112), ints(0), ints(2));
        table(due, "switch text { case \"x\": case \"Aa\": case \"BB\": }", ints(120, 2112), ints(0, 1), ints(1, 2));
        table(due, "switch text { default: case \"x\": case \"BB\", \"y\": case \"Aa\": }", ints(120, 121, 2112),
            ints(1, 2, 2), ints(1, 1, 2));
        table(due, "switch text { case \"y\": case \"bmgkAEs\": case \"\": }", ints(0, 121), ints(1, 0), ints(2, 1));
    }

    /** 3 to the 4th texts of 8 signs have one HASH: two signs are worth the same as one more and 31 less. */
    private static String alikeText(int number) {
        String[] pairs = {"ap", "bQ", "c2"};
        StringBuilder all = new StringBuilder();
        int rest = number;
        for (int i = 0; i < 4; i++) {
            all.append(pairs[rest % 3]);
            rest /= 3;
        }
        return all.toString();
    }

    private static void allAlike(Due due) {
        due.by("Promise 16: How many labels have KEY i. (all 32)");
        for (int n = 1; n <= 32; n++) {
            StringBuilder labels = new StringBuilder();
            for (int i = 0; i < n; i++) {
                labels.append(i == 0 ? "" : ", ").append('"').append(alikeText(i)).append('"');
            }
            SwitchRules x = Due.unit("switch text { default: case " + labels + ": }");
            due.is("told(3)", x.told(3), n);
            due.is("keys()", x.keys(), 1);
            due.is("alike(0)", x.alike(0), n);
            due.is("alike(1)", x.alike(1), -1);
            due.is("target(0)", x.target(0), 1);
            due.is("key(0)", x.key(0), "apapapap".hashCode());
            due.is("form()", x.form(), 2);
        }
    }

    private static void noUnit(Due due) {
        due.by("Promises 12, 13, 15, 16: -3; Promise 14: 0 where there is none");
        SwitchRules gone = Due.unit(numbers("1, 2, 3"));
        gone.read();
        SwitchRules[] both = {new SwitchRules(), gone};
        for (SwitchRules x : both) {
            due.is("form()", x.form(), -3);
            due.is("keys()", x.keys(), -3);
            int[] places = {0, 1, 2, 3, -1, 32, Integer.MAX_VALUE, Integer.MIN_VALUE};
            for (int i : places) {
                due.is("key(" + i + ")", x.key(i), 0);
                due.is("target(" + i + ")", x.target(i), -3);
                due.is("alike(" + i + ")", x.alike(i), -3);
            }
        }
    }

    private static void noneSuch(Due due) {
        due.by("Promise 14: 0 where there is none; Promises 15, 16: -1 (there is none such)");
        String[] units = {numbers("7, 8, 9"), numbers(Due.numbered(32, "", "", ", ")),
            "switch text { case \"a\": }", "switch text {}"};
        for (String unit : units) {
            SwitchRules x = Due.unit(unit);
            for (int i : NO_KEYS) {
                due.is("key(" + i + ") of " + unit, x.key(i), 0);
                due.is("target(" + i + ") of " + unit, x.target(i), -1);
                due.is("alike(" + i + ") of " + unit, x.alike(i), -1);
            }
            due.is("key(keys()) of " + unit, x.key(x.keys()), 0);
            due.is("target(keys()) of " + unit, x.target(x.keys()), -1);
            due.is("alike(keys()) of " + unit, x.alike(x.keys()), -1);
        }
    }

    private static void tablesOfTheLatestUnit(Due due) {
        due.by("Promise 3: THE TEXT .. is read (its KEYS are those of its own labels)");
        SwitchRules x = Due.unit(numbers(Due.numbered(32, "", "", ", ")));
        due.is("keys() of 32", x.keys(), 32);
        due.is("form() of 32", x.form(), 1);
        Due.type(x, "switch text { default: case \"Aa\": case \"BB\": }");
        due.is("keys() before read()", x.keys(), 32);
        x.read();
        due.is("keys() of 1", x.keys(), 1);
        due.is("form() of 1", x.form(), 2);
        due.is("key(0)", x.key(0), 2112);
        due.is("target(0)", x.target(0), 1);
        due.is("alike(0)", x.alike(0), 2);
        due.is("key(1), which the unit before had", x.key(1), 0);
        due.is("target(1), which the unit before had", x.target(1), -1);
    }
}
