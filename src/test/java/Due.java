/** What the tests share: counting wrong answers, typing whole texts, and reading them. */
final class Due {
    private int asked = 0;
    private int wrong = 0;

    void is(String call, long got, long want) {
        asked++;
        if (got != want) {
            wrong++;
            System.out.println(call + " answered " + got + ", due is " + want);
        }
    }

    /** Ends the test, with exit code 1 if an answer was wrong. */
    void end() {
        System.out.println(asked + " answers, " + wrong + " wrong");
        if (wrong != 0 || asked == 0) {
            System.exit(1);
        }
    }

    /** Makes THE TEXT these signs, 8 octets a call. */
    static void type(SwitchRules x, String signs) {
        x.type(0, 0);
        for (int from = 0; from < signs.length(); from += 8) {
            int to = Math.min(signs.length(), from + 8);
            long v = 0;
            for (int i = from; i < to; i++) {
                v = (v << 8) | signs.charAt(i);
            }
            x.type(v, to - from);
        }
    }

    static SwitchRules unit(String signs) {
        SwitchRules x = new SwitchRules();
        type(x, signs);
        x.read();
        return x;
    }

    /** The text is read without a fault. */
    void reads(String signs, int arms) {
        SwitchRules x = new SwitchRules();
        type(x, signs);
        is("read() of " + signs, x.read(), arms);
        is("place() of " + signs, x.place(), -1);
    }

    /** The text, less the mark ^, has this fault where the mark stands. */
    void faults(String marked, int fault) {
        int place = marked.indexOf('^');
        String signs = marked.substring(0, place) + marked.substring(place + 1);
        SwitchRules x = new SwitchRules();
        type(x, signs);
        is("read() of " + marked, x.read(), -10 - fault);
        is("place() of " + marked, x.place(), place);
    }

    /** How a run ends, what it yields or throws, and its trace. */
    void runs(SwitchRules x, int v, int flags, int how, int number, int... trace) {
        String call = "run(" + v + ", " + flags + ")";
        is(call, x.run(v, flags), how);
        latest(call, x, number, trace);
    }

    void latest(String call, SwitchRules x, int number, int... trace) {
        is("value() behind " + call, x.value(), number);
        is("traced() behind " + call, x.traced(), trace.length);
        for (int i = 0; i < trace.length; i++) {
            is("trace(" + i + ") behind " + call, x.trace(i), trace[i]);
        }
        is("trace(" + trace.length + ") behind " + call, x.trace(trace.length), 0);
        is("trace(-1) behind " + call, x.trace(-1), 0);
    }

    static String times(int n, String part) {
        return part.repeat(n);
    }

    /** n parts with a number in each, from 0, joined by a sign. */
    static String numbered(int n, String before, String behind, String joint) {
        StringBuilder all = new StringBuilder();
        for (int i = 0; i < n; i++) {
            all.append(i == 0 ? "" : joint).append(before).append(i).append(behind);
        }
        return all.toString();
    }
}
