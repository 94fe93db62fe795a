/** REFUSALS: each call that can be refused is, and changes nothing, whatever there is: a text, a unit, a run, a fault. */
public final class EdgesOfRefusalsTest {
    private static final int[] WRONG = {-1, -2, 9, 33, 121, 256, Integer.MAX_VALUE, Integer.MIN_VALUE};

    public static void main(String[] args) {
        Due due = new Due();
        ofANewObject(due);
        ofAText(due);
        ofAFullText(due);
        ofAUnit(due);
        ofARun(due);
        ofAFault(due);
        tellingChangesNothing(due);
        due.end();
    }

    /** All calls that are refused in every state; answers that are none of refusals are 0 there. */
    private static void refuseAlways(Due due, SwitchRules x, boolean isUnit) {
        int none = isUnit ? -1 : -3;
        for (int i : WRONG) {
            due.is("type(-1, " + i + ")", x.type(-1L, i), -2);
            due.is("told(" + i + ")", x.told(i), -2);
            due.is("label(" + i + ", 0)", x.label(i, 0), none);
            due.is("label(" + i + ", " + i + ")", x.label(i, i), none);
            due.is("trace(" + i + ")", x.trace(i), 0);
            due.is("key(" + i + ")", x.key(i), 0);
            due.is("target(" + i + ")", x.target(i), none);
            due.is("alike(" + i + ")", x.alike(i), none);
        }
    }

    private static void refuseWithoutAUnit(Due due, SwitchRules x) {
        refuseAlways(due, x, false);
        for (int what = 0; what < 8; what++) {
            due.is("told(" + what + ")", x.told(what), -3);
        }
        for (int i : WRONG) {
            due.is("run(" + i + ", " + i + ")", x.run(i, i), -3);
        }
        due.is("run(0, 0)", x.run(0, 0), -3);
        due.is("runNone()", x.runNone(), -3);
        due.is("traced()", x.traced(), -3);
        due.is("form()", x.form(), -3);
        due.is("keys()", x.keys(), -3);
        due.is("label(0, 0)", x.label(0, 0), -3);
        due.is("target(0)", x.target(0), -3);
        due.is("alike(0)", x.alike(0), -3);
    }

    private static void ofANewObject(Due due) {
        due.by("REFUSALS .. change nothing (of a new object)");
        SwitchRules x = new SwitchRules();
        refuseWithoutAUnit(due, x);
        due.same("a new object behind refusals", Due.answers(x), Due.answers(new SwitchRules()));
        due.is("type('a', 1)", x.type('a', 1), 1);
    }

    private static void ofAText(Due due) {
        due.by("REFUSALS .. change nothing (of THE TEXT)");
        SwitchRules x = new SwitchRules();
        Due.type(x, "switch number { case 1: }");
        refuseWithoutAUnit(due, x);
        due.is("hash() behind refusals", x.hash(), "switch number { case 1: }".hashCode());
        due.is("read() behind refusals", x.read(), 1);
    }

    private static void ofAFullText(Due due) {
        due.by("REFUSALS .. change nothing (-4 no room)");
        SwitchRules x = new SwitchRules();
        Due.type(x, "switch number {" + Due.times(2984, " ") + "}");
        for (int n = 1; n <= 8; n++) {
            due.is("type('@', " + n + ") to a full text", x.type('@', n), -4);
        }
        due.is("read() behind refusals", x.read(), 0);
        due.is("place() behind refusals", x.place(), -1);
    }

    private static void ofAUnit(Due due) {
        due.by("REFUSALS .. change nothing (of a unit)");
        String unit = "enum e { k, l, m } value e { case l, k -> 1; case m -> { add 2; yield 3; } }";
        SwitchRules x = Due.unit(unit);
        refuseAlways(due, x, true);
        due.is("label(0, 2)", x.label(0, 2), -2);
        due.is("label(3, 0)", x.label(3, 0), -1);
        due.is("run(-1, 0)", x.run(-1, 0), -2);
        due.is("traced()", x.traced(), -3);
        due.is("target(3)", x.target(3), -1);
        due.is("alike(3)", x.alike(3), -1);
        due.same("a unit behind refusals", Due.answers(x), Due.answers(Due.unit(unit)));
        due.runs(x, 2, 0, 2, 3, 2);
    }

    private static void ofARun(Due due) {
        due.by("REFUSALS .. change nothing (of a RUN)");
        SwitchRules x = Due.unit("enum e { k, l, m } value e { case l, k -> 1; case m -> { add 2; add 3; yield 4; } }");
        x.run(2, 0);
        String before = Due.answers(x);
        refuseAlways(due, x, true);
        due.is("run(-1, -1)", x.run(-1, -1), -2);
        due.is("run(the least, 0)", x.run(Integer.MIN_VALUE, 0), -2);
        due.same("a run behind refusals", Due.answers(x), before);
        due.latest("a run, and refusals", x, 4, 2, 3);
    }

    private static void ofAFault(Due due) {
        due.by("REFUSALS .. change nothing (of a FAULT)");
        SwitchRules x = Due.unit("switch number { case 1: case 1: }");
        refuseWithoutAUnit(due, x);
        due.is("place() behind refusals", x.place(), 29);
        due.is("type('a', 1) behind refusals", x.type('a', 1), 1);
    }

    private static void tellingChangesNothing(Due due) {
        due.by("Promises 4 to 6, 9 to 17: what is told is told again");
        SwitchRules x = Due.unit("value text { case \"Aa\", \"b\" -> 1; case \"BB\" -> { add 2; throw 3; } default -> -4; }");
        Due.type(x, "BB");
        x.run(7, 7);
        String first = Due.answers(x);
        due.same("all answers, again", Due.answers(x), first);
        due.latest("run()", x, 3, 2);
        due.is("hash()", x.hash(), 2112);
        due.is("run() again", x.run(-7, 0), 3);
        due.same("all answers behind the same run", Due.answers(x), first);
    }
}
