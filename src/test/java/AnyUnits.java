import java.util.ArrayList;
import java.util.List;

/** Writes units from a fixed row of numbers: mostly without a FAULT, so that a reading comes far into them. */
final class AnyUnits {
    private static final String[] SIGNS = {"enum", "switch", "value", "number", "text", "case", "default", "add", "let",
        "use", "break", "yield", "throw", "if", "else", "a", "e0", "k0", "v0", "0", "1", "00", "\"\"", "\"Aa\"", "{", "}",
        ":", ";", ",", "=", "-", "->", "@", "\"", "abcdefgh", "abcdefghi", "123456789", "1234567890", "\"zZ123456\"",
        "\"zZ1234567\"", "A"};
    private static final String[] BLANKS = {" ", "", "  ", "\t", "\n", "\r\n"};
    private static final int NUMBERS = 0;
    private static final int TEXTS = 1;
    private static final int CONSTANTS = 2;

    /** The limit that a unit comes up to, or passes by one. */
    private enum Edge { NONE, ENUMERATIONS, CONSTANTS, LABELS, ARMS, STMTS, NAMES }

    private long state;
    private final List<String> tokens = new ArrayList<>();
    /** How many choices of a thousand are made without a look at the rules. */
    private int wild;
    private Edge edge;
    private boolean isValue;
    private int sort;
    private int constants;
    private int stmtsLeft;
    private int labelsMade;
    private int namesMade;
    private final List<String> scope = new ArrayList<>();
    private final List<String> set = new ArrayList<>();

    AnyUnits(long seed) {
        state = seed;
    }

    int next(int bound) {
        state = state * 6364136223846793005L + 1442695040888963407L;
        return (int) ((state >>> 33) % bound);
    }

    private boolean isWild() {
        return next(1000) < wild;
    }

    /** The tokens of a new unit. */
    List<String> unit() {
        int[] wilds = {0, 0, 2, 10, 50};
        tokens.clear();
        scope.clear();
        set.clear();
        wild = wilds[next(wilds.length)];
        edge = Edge.values()[next(2) * next(Edge.values().length)];
        isValue = next(2) == 0;
        sort = next(3);
        labelsMade = 0;
        namesMade = 0;
        stmtsLeft = edge == Edge.STMTS ? 119 + next(4) : 5 + next(25);
        enumerations();
        put(isValue ? "value" : "switch");
        put(sort == NUMBERS ? "number" : sort == TEXTS ? "text" : "e0");
        put("{");
        arms();
        put("}");
        return new ArrayList<>(tokens);
    }

    /** The tokens with blanks between them, or none. */
    String joined(List<String> all) {
        int blanks = next(3) == 0 ? BLANKS.length : 1;
        StringBuilder text = new StringBuilder();
        for (String token : all) {
            text.append(token).append(BLANKS[next(blanks)]);
        }
        return text.toString();
    }

    /** A token that was not chosen for its place. */
    String anyToken() {
        return SIGNS[next(SIGNS.length)];
    }

    private void put(String... more) {
        for (String token : more) {
            if (!isWild()) {
                tokens.add(token);
            } else if (next(2) == 0) {
                tokens.add(anyToken());
            }
        }
    }

    private void enumerations() {
        int n = edge == Edge.ENUMERATIONS ? 4 + next(2) : sort == CONSTANTS || next(8) == 0 ? 1 + next(3) : 0;
        for (int i = 0; i < n; i++) {
            int size = edge == Edge.CONSTANTS ? 16 + next(2) : 1 + next(7);
            constants = i == 0 ? size : constants;
            put("enum", "e" + (isWild() ? 0 : i), "{");
            for (int j = 0; j < size; j++) {
                put("k" + (isWild() ? 0 : j), j + 1 < size ? "," : "}");
            }
        }
    }

    private void arms() {
        boolean isOld = next(2) == 0;
        List<Integer> sizes = armSizes();
        for (int i = 0; i < sizes.size(); i++) {
            boolean isOldNow = isWild() != isOld;
            if (sizes.get(i) == 0) {
                put("default");
            } else {
                labels(sizes.get(i));
            }
            put(isOldNow ? ":" : "->");
            set.clear();
            if (isOldNow) {
                oldArm(i + 1 == sizes.size());
            } else {
                scope.clear();
                body();
            }
        }
    }

    /** How many labels each arm has; 0 is the default's. */
    private List<Integer> armSizes() {
        List<Integer> sizes = new ArrayList<>();
        boolean isMany = edge == Edge.LABELS || edge == Edge.ARMS;
        int left = sort == CONSTANTS ? constants : edge == Edge.LABELS ? 32 + next(2) : 32;
        int arms = edge == Edge.ARMS ? 19 + next(3) : isMany ? 20 : next(6);
        int most = edge == Edge.ARMS ? 1 : edge == Edge.LABELS ? 20 : 4;
        while (sizes.size() < arms && left > 0) {
            int size = Math.min(left, 1 + next(most));
            sizes.add(size);
            left -= size;
        }
        boolean hasAll = sort == CONSTANTS && next(2) == 0;
        if (hasAll && left > 0) {
            sizes.add(left);
        }
        if (!hasAll && (isValue || next(2) == 0) != isWild()) {
            sizes.add(next(sizes.size() + 1), 0);
        }
        if (isWild()) {
            sizes.add(0);
        }
        return sizes;
    }

    private void labels(int n) {
        put("case");
        oneLabel();
        for (int i = 1; i < n; i++) {
            put(",");
            oneLabel();
        }
    }

    private void oneLabel() {
        int i = isWild() ? next(3) : labelsMade;
        int kind = isWild() ? next(3) : sort;
        labelsMade++;
        if (kind == NUMBERS) {
            if (next(3) == 0) {
                put("-");
            }
            put("" + (next(4) > 0 ? i : next(3) == 0 ? 999999999 - i : 40 + 100 * i));
        } else if (kind == TEXTS) {
            String twins = (i % 2 == 0 ? "Aa" : "BB") + (i / 2 % 2 == 0 ? "Aa" : "BB");
            put("\"" + (next(2) == 0 ? twins + i / 4 : (next(2) == 0 ? "t" : "zabcde") + i) + "\"");
        } else {
            put("k" + i);
        }
    }

    private void oldArm(boolean isLast) {
        boolean canEnd = stmts(0);
        if (canEnd && isLast && isValue && !isWild()) {
            put("yield", "" + next(9), ";");
        }
    }

    private void body() {
        int choice = next(4);
        stmtsLeft--;
        if (choice == 0 || edge == Edge.NAMES) {
            block(0, isValue && !isWild());
        } else if (choice == 1) {
            put("throw", "" + next(900), ";");
        } else if (isValue) {
            if (next(2) == 0) {
                put("-");
            }
            put("" + next(900), ";");
        } else if (choice == 2) {
            put("add", "" + next(900), ";");
        } else {
            put("break", ";");
        }
    }

    /** Whether the stmts can END. */
    private boolean stmts(int depth) {
        int n = edge == Edge.STMTS ? 10 : edge == Edge.NAMES ? 25 : next(6);
        boolean canEnd = true;
        for (int i = 0; i < n && stmtsLeft > 0 && (canEnd || isWild()); i++) {
            canEnd = edge == Edge.NAMES && depth < 2 && next(9) > 0 ? let() : stmt(depth);
        }
        return canEnd;
    }

    private boolean block(int depth, boolean mustLeave) {
        int before = scope.size();
        put("{");
        boolean canEnd = stmts(depth + 1);
        if (canEnd && mustLeave) {
            put("yield", "-", "" + next(9), ";");
            canEnd = false;
        }
        put("}");
        while (scope.size() > before) {
            set.remove(scope.remove(before));
        }
        return canEnd;
    }

    private boolean stmt(int depth) {
        stmtsLeft--;
        int choice = next(depth > 9 && !isWild() ? 8 : 14);
        if (choice < 2) {
            put("add", "" + next(1000), ";");
        } else if (choice < 4) {
            return let();
        } else if (choice == 4 && !scope.isEmpty()) {
            String name = scope.get(next(scope.size()));
            put(name, "=", "" + next(1000), ";");
            makeSet(name);
        } else if (choice < 7 && !set.isEmpty()) {
            put("use", isWild() ? scope.get(0) : set.get(next(set.size())), ";");
        } else if (choice == 7) {
            return leave();
        } else if (choice < 11) {
            return block(depth, false);
        } else {
            return branches(depth);
        }
        return true;
    }

    private boolean let() {
        boolean isThere = isWild() && !scope.isEmpty();
        String name = isThere ? scope.get(0) : "v" + namesMade;
        namesMade++;
        put("let", name);
        scope.add(name);
        if (next(2) == 0) {
            put("=", "" + next(1000));
            makeSet(name);
        }
        put(";");
        return true;
    }

    private void makeSet(String name) {
        if (!set.contains(name)) {
            set.add(name);
        }
    }

    private boolean leave() {
        if (next(2) == 0) {
            put("throw", "" + next(1000), ";");
        } else if (isValue != isWild()) {
            put("yield", "" + next(1000), ";");
        } else {
            put("break", ";");
        }
        return false;
    }

    private boolean branches(int depth) {
        List<String> before = new ArrayList<>(set);
        put("if");
        boolean first = stmt(depth + 1);
        List<String> behindFirst = new ArrayList<>(set);
        set.clear();
        set.addAll(before);
        boolean second = true;
        if (next(2) == 0) {
            put("else");
            second = stmt(depth + 1);
        }
        if (!second) {
            set.clear();
            set.addAll(behindFirst);
        } else if (first) {
            set.retainAll(behindFirst);
        }
        return first || second;
    }
}
