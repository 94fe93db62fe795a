/** What the tests share: counting wrong answers, typing whole texts, and reading them. */
final class Due {
    /** Together they have all tokens and rules of the grammar, with a blank between any two tokens. */
    static final String[] UNITS = {
        "enum a { b , c } enum d { e } switch a { case b , c : { } let x ; let y = 1 ; if add 2 ; else { x = 3 ; use x ; } "
            + "use y ; if if break ; else throw 4 ; default : add 5 ; }",
        "enum a { b , c } value a { case b -> - 1 ; case c -> 2 ; default -> { if yield - 3 ; else throw 4 ; } }",
        "switch text { case \"\" , \"a\" -> add 1 ; case \"b\" -> break ; default -> throw 2 ; }",
        "value number { case - 1 , 2 : add 3 ; default : yield 4 ; }"};

    private int asked = 0;
    private int wrong = 0;
    private String sentence = "";

    /** The words of the document by which the next answers are due; they are told with a wrong one. */
    void by(String words) {
        sentence = words;
    }

    void is(String call, long got, long want) {
        same(call, Long.toString(got), Long.toString(want));
    }

    void same(String call, String got, String want) {
        asked++;
        if (!got.equals(want)) {
            wrong++;
            System.out.println(call + " answered " + got + ", due is " + want
                + (sentence.isEmpty() ? "" : ", by \"" + sentence + "\""));
        }
    }

    /** Ends the test, with exit code 1 if an answer was wrong. */
    void end() {
        System.out.println(asked + " answers, " + wrong + " wrong");
        if (wrong != 0 || asked == 0) {
            System.exit(1);
        }
    }

    /** Makes THE TEXT these signs, 8 octets a call. */
    static void type(SwitchRules x, String signs) {
        x.type(0, 0);
        for (int from = 0; from < signs.length(); from += 8) {
            int to = Math.min(signs.length(), from + 8);
            long v = 0;
            for (int i = from; i < to; i++) {
                v = (v << 8) | signs.charAt(i);
            }
            x.type(v, to - from);
        }
    }

    static SwitchRules unit(String signs) {
        SwitchRules x = new SwitchRules();
        type(x, signs);
        x.read();
        return x;
    }

    /** The text is read without a fault. */
    void reads(String signs, int arms) {
        SwitchRules x = new SwitchRules();
        type(x, signs);
        is("read() of " + signs, x.read(), arms);
        is("place() of " + signs, x.place(), -1);
    }

    /** The text, less the mark ^, has this fault where the mark stands. */
    void faults(String marked, int fault) {
        int place = marked.indexOf('^');
        String signs = marked.substring(0, place) + marked.substring(place + 1);
        SwitchRules x = new SwitchRules();
        type(x, signs);
        is("read() of " + marked, x.read(), -10 - fault);
        is("place() of " + marked, x.place(), place);
    }

    /** How a run ends, what it yields or throws, and its trace. */
    void runs(SwitchRules x, int v, int flags, int how, int number, int... trace) {
        String call = "run(" + v + ", " + flags + ")";
        is(call, x.run(v, flags), how);
        latest(call, x, number, trace);
    }

    void latest(String call, SwitchRules x, int number, int... trace) {
        is("value() behind " + call, x.value(), number);
        is("traced() behind " + call, x.traced(), trace.length);
        for (int i = 0; i < trace.length; i++) {
            is("trace(" + i + ") behind " + call, x.trace(i), trace[i]);
        }
        is("trace(" + trace.length + ") behind " + call, x.trace(trace.length), 0);
        is("trace(-1) behind " + call, x.trace(-1), 0);
    }

    /** All that a unit, its table and the latest run tell, in so few calls that the 512 of an object are not used up. */
    static String answers(SwitchRules x) {
        StringBuilder all = new StringBuilder();
        all.append("place ").append(x.place()).append(", hash ").append(x.hash()).append(", told");
        for (int what = 0; what < 8; what++) {
            all.append(' ').append(x.told(what));
        }
        all.append(", labels");
        for (int i = 0; i <= x.told(3); i++) {
            all.append(' ').append(x.label(i, 0)).append('/').append(x.label(i, 1));
        }
        all.append(", table ").append(x.form()).append(' ').append(x.keys());
        for (int i = 0; i <= x.keys(); i++) {
            all.append(' ').append(x.key(i)).append('/').append(x.target(i)).append('/').append(x.alike(i));
        }
        all.append(", run ").append(x.value()).append(' ').append(x.traced());
        for (int i = 0; i <= Math.max(0, x.traced()); i++) {
            all.append(' ').append(x.trace(i));
        }
        return all.toString();
    }

    static String times(int n, String part) {
        return part.repeat(n);
    }

    /** n parts with a number in each, from 0, joined by a sign. */
    static String numbered(int n, String before, String behind, String joint) {
        StringBuilder all = new StringBuilder();
        for (int i = 0; i < n; i++) {
            all.append(i == 0 ? "" : joint).append(before).append(i).append(behind);
        }
        return all.toString();
    }
}
