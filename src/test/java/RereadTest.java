/** Promise 3: a unit read behind others, with or without faults, is as in a new object. */
public final class RereadTest {
    private static final String[] TEXTS = {
        "switch number {}",
        "switch text {}",
        "enum a { b, c } switch a {}",
        "value number { default -> 1; case 2 -> { add 3; yield 4; } }",
        "value number { case 1: let a; if a = 5; else a = 6; use a; default: yield 7; }",
        "switch text { case \"Aa\": let a = 1; let b; case \"BB\": b = 2; use b; break; case \"a\", \"b\", \"c\": }",
        "enum a { b, c, d } enum e { f, g } value a { case c, d -> -1; case b -> throw 2; }",
        "enum a { b } enum c { b } enum d { b } enum e { b, c, d } switch e { case d: add 1; case b: add 2; }",
        "switch number { case 1: let a; let ",
        "switch number { case 1 -> { let a; break; } case 1",
        "enum a { b, c, ",
        "value number { default: yield 1; ",
        "switch number { case 1, 2, 3: { { { add 1; ",
        "",
    };

    public static void main(String[] args) {
        Due due = new Due();
        for (String first : TEXTS) {
            for (String second : TEXTS) {
                SwitchRules used = Due.unit(first);
                used.run(1, 1);
                compare(due, first + " ==> " + second, used, second);
            }
        }
        for (int from = 0; from + 4 <= TEXTS.length; from++) {
            SwitchRules x = new SwitchRules();
            for (int i = from; i < from + 4; i++) {
                compare(due, "text " + from + " up to " + TEXTS[i], x, TEXTS[i]);
            }
        }
        manyStmts(due);
        due.end();
    }

    private static void compare(Due due, String where, SwitchRules used, String text) {
        SwitchRules fresh = new SwitchRules();
        Due.type(fresh, text);
        Due.type(used, text);
        due.is("read() of " + where, used.read(), fresh.read());
        due.is("place() of " + where, used.place(), fresh.place());
        due.is("traced() of " + where, used.traced(), fresh.traced());
        due.is("value() of " + where, used.value(), fresh.value());
        for (int what = 0; what < 8; what++) {
            due.is("told(" + what + ") of " + where, used.told(what), fresh.told(what));
        }
        due.is("form() of " + where, used.form(), fresh.form());
        due.is("keys() of " + where, used.keys(), fresh.keys());
        for (int i = 0; i < 6; i++) {
            due.is("label(" + i + ", 0) of " + where, used.label(i, 0), fresh.label(i, 0));
            due.is("label(" + i + ", 1) of " + where, used.label(i, 1), fresh.label(i, 1));
            due.is("key(" + i + ") of " + where, used.key(i), fresh.key(i));
            due.is("target(" + i + ") of " + where, used.target(i), fresh.target(i));
            due.is("alike(" + i + ") of " + where, used.alike(i), fresh.alike(i));
        }
        for (int v = 0; v < 4; v++) {
            due.is("run(" + v + ", 1) of " + where, used.run(v, 1), fresh.run(v, 1));
            due.is("its value() of " + where, used.value(), fresh.value());
            due.is("its traced() of " + where, used.traced(), fresh.traced());
            for (int i = 0; i < 4; i++) {
                due.is("its trace(" + i + ") of " + where, used.trace(i), fresh.trace(i));
            }
        }
    }

    /** What one unit uses up of the limits is there again for the next. */
    private static void manyStmts(Due due) {
        String unit = "enum a { " + Due.numbered(16, "c", "", ", ") + " } switch a { "
            + Due.numbered(16, "case c", ": ", "") + Due.numbered(20, "let a", ";", "") + Due.times(100, "add 1;") + " }";
        SwitchRules x = new SwitchRules();
        for (int i = 0; i < 3; i++) {
            Due.type(x, unit);
            due.is("read() of much, again", x.read(), 16);
            due.is("run() of much, again", x.run(15, 0), 1);
            due.is("traced() of much, again", x.traced(), 100);
        }
    }
}
