import java.util.List;

/**
 * SwitchRules and the second reading of the document answer alike, for units and calls from a fixed row of numbers.
 * It may be given where that row begins and how many units are asked for.
 */
public final class SecondReadingTest {
    private static final int[] EDGES = {0, 1, 2, 7, 8, 9, 19, 20, 31, 32, 119, 120, -1, -2, Integer.MAX_VALUE,
        Integer.MIN_VALUE};
    private static final String[] SELECTORS = {"", "a", "Aa", "AaAa0", "BBAa0", "t0", "t1", "zabcde1"};

    private final Due due = new Due();
    private final AnyUnits any;
    /** How often each FAULT was met, and, at 0, none. */
    private final int[] met = new int[13];
    private SwitchRules x;
    private SecondReading y;
    private int calls;
    private int mostCalls;
    private String latestRead = "";

    private SecondReadingTest(long seed) {
        any = new AnyUnits(seed);
    }

    public static void main(String[] args) {
        SecondReadingTest test = new SecondReadingTest(args.length > 0 ? Long.parseLong(args[0]) : 1);
        int units = args.length > 1 ? Integer.parseInt(args[1]) : 4000;
        for (int i = 0; i < units; i++) {
            test.oneUnit();
        }
        for (int fault = 0; fault < test.met.length; fault++) {
            test.due.is("whether FAULT " + fault + " was met", test.met[fault] > 0 ? 1 : 0, 1);
        }
        test.due.is("whether no object had more than 512 calls", test.mostCalls <= 512 ? 1 : 0, 1);
        test.due.end();
    }

    /** A unit; where it has a FAULT, the same with a change at its place, a few times. */
    private void oneUnit() {
        List<String> tokens = any.unit();
        for (int i = 0; i < 12; i++) {
            String text = any.joined(tokens);
            readBoth(text);
            if (y.place() < 0) {
                return;
            }
            change(tokens, indexAt(tokens, text, y.place()));
        }
    }

    private static int indexAt(List<String> tokens, String text, int place) {
        int i = 0;
        int from = 0;
        while (i < tokens.size() && text.indexOf(tokens.get(i), from) < place) {
            from = text.indexOf(tokens.get(i), from) + tokens.get(i).length();
            i++;
        }
        return i;
    }

    private void change(List<String> tokens, int i) {
        int choice = any.next(6);
        if (choice == 0 || i >= tokens.size()) {
            tokens.add(i, any.anyToken());
        } else if (choice == 1) {
            tokens.set(i, any.anyToken());
        } else if (choice == 2) {
            tokens.remove(i);
        } else if (tokens.get(i).equals("}")) {
            tokens.addAll(i, choice == 3 ? List.of("yield", "1", ";") : List.of("default", ":", "throw", "2", ";"));
        } else {
            while (i < tokens.size() - 1 && !tokens.get(i).equals(";")) {
                tokens.remove(i);
            }
            tokens.remove(i);
        }
    }

    private void readBoth(String text) {
        if (x == null || calls + text.length() / 8 > 300 || any.next(8) == 0) {
            x = new SwitchRules();
            y = new SecondReading();
            calls = 0;
        }
        boolean isFull = calls == 0 && any.next(20) == 0;
        latestRead = isFull ? text + " ".repeat(Math.max(0, 2990 + any.next(20) - text.length())) : text;
        typeBoth(latestRead);
        int arms = y.read();
        met[Math.max(0, -10 - arms)]++;
        same("read()", x.read(), arms);
        askUnit();
        askLabels();
        askLatestRun();
        int runs = arms >= 0 ? 6 : 1;
        for (int i = 0; i < runs; i++) {
            runBoth();
            askLatestRun();
        }
    }

    private void typeBoth(String text) {
        int outside = any.next(2) == 0 ? 9 : -1;
        same("type(0, 0)", x.type(0, 0), y.type(0, 0));
        same("type(1, " + outside + ")", x.type(1, outside), y.type(1, outside));
        for (int from = 0; from < text.length(); from += 8) {
            int to = Math.min(text.length(), from + 8);
            long v = any.next(1 << 16);
            for (int i = from; i < to; i++) {
                v = (v << 8) | text.charAt(i);
            }
            same("type(" + v + ", " + (to - from) + ")", x.type(v, to - from), y.type(v, to - from));
        }
    }

    private void same(String call, int got, int want) {
        calls++;
        mostCalls = Math.max(mostCalls, calls);
        due.is(got == want ? call : call + " with " + latestRead, got, want);
    }

    private int edge() {
        return any.next(3) > 0 ? any.next(34) - 1 : EDGES[any.next(EDGES.length)];
    }

    private void askUnit() {
        same("place()", x.place(), y.place());
        for (int what = -1; what < 9; what++) {
            same("told(" + what + ")", x.told(what), y.told(what));
        }
        same("form()", x.form(), y.form());
        same("keys()", x.keys(), y.keys());
    }

    private void askLabels() {
        int n = Math.min(5, Math.max(1, y.told(3)));
        for (int i = 0; i < n; i++) {
            int j = any.next(3) > 0 ? i : edge();
            int what = any.next(9) == 0 ? edge() : any.next(2);
            same("label(" + j + ", " + what + ")", x.label(j, what), y.label(j, what));
            same("key(" + j + ")", x.key(j), y.key(j));
            same("target(" + j + ")", x.target(j), y.target(j));
            same("alike(" + j + ")", x.alike(j), y.alike(j));
        }
    }

    private void runBoth() {
        int v = any.next(2) == 0 ? y.label(any.next(Math.max(1, y.told(3))), 1) : edge();
        int flags = any.next(1 << 16) << 16 | any.next(1 << 16);
        if (y.told(1) == 1) {
            typeBoth(SELECTORS[any.next(SELECTORS.length)]);
        }
        if (any.next(12) == 0) {
            same("runNone()", x.runNone(), y.runNone());
        } else {
            same("run(" + v + ", " + flags + ")", x.run(v, flags), y.run(v, flags));
        }
        same("hash()", x.hash(), y.hash());
    }

    private void askLatestRun() {
        same("value()", x.value(), y.value());
        same("traced()", x.traced(), y.traced());
        int n = Math.min(4, Math.max(0, y.traced()) + 1);
        for (int i = 0; i < n; i++) {
            int j = y.traced() > 4 ? any.next(y.traced()) : i;
            same("trace(" + j + ")", x.trace(j), y.trace(j));
        }
    }
}
