import java.util.ArrayList;
import java.util.HashMap;
import java.util.HashSet;
import java.util.List;
import java.util.Map;
import java.util.Set;
import java.util.TreeSet;
import java.util.regex.Matcher;
import java.util.regex.Pattern;

/**
 * The document read a second time and built in another way, for SwitchRules to be held against: a tree is made of
 * THE TEXT as far as tokens fit, then all FAULTS of it are looked for, rule by rule, and the first of them counts.
 */
final class SecondReading {
    private static final Pattern TOKEN =
        Pattern.compile("[a-z][a-z0-9]*|[0-9]+|\"[a-zA-Z0-9]*\"|->|[{}:;,=-]");
    private static final Pattern NAME = Pattern.compile("[a-z][a-z0-9]*");
    private static final Set<String> WORDS = Set.of("enum", "switch", "value", "number", "text", "case", "default", "add",
        "let", "use", "break", "yield", "throw", "if", "else");

    /** Ends the reading where a token can't come. */
    private static final class Stop extends Exception {
        private static final long serialVersionUID = 1;
    }

    private record Token(String signs, int place) {
        boolean is(String other) {
            return signs.equals(other);
        }

        boolean isName() {
            return NAME.matcher(signs).matches() && !WORDS.contains(signs);
        }

        boolean isNumber() {
            return !signs.isEmpty() && Character.isDigit(signs.charAt(0));
        }

        boolean isText() {
            return signs.startsWith("\"");
        }
    }

    private static final class Enumeration {
        private Token name;
        private final List<Token> constants = new ArrayList<>();
    }

    private static final class Label {
        private int arm;
        private Token first;
        private Token last;
        private boolean isMinus;

        /** What tells labels apart. */
        Object sign(List<String> constants) {
            if (last.isNumber()) {
                int number = Integer.parseInt(last.signs());
                return isMinus ? -number : number;
            }
            return last.isText() ? last.signs().substring(1, last.signs().length() - 1)
                : (Object) constants.indexOf(last.signs());
        }

        int key(List<String> constants) {
            return last.isText() ? sign(constants).hashCode() : (Integer) sign(constants);
        }
    }

    private static final class Stmt {
        private String word;
        private Token first;
        private Token name;
        private boolean isSetting;
        private int number;
        private Token close;
        private final List<Stmt> parts = new ArrayList<>();

        boolean canEnd() {
            return switch (word) {
                case "break", "yield", "throw" -> false;
                case "{" -> listCanEnd(parts);
                case "if" -> parts.size() < 2 || parts.get(0).canEnd() || parts.get(1).canEnd();
                default -> true;
            };
        }
    }

    private static boolean listCanEnd(List<Stmt> all) {
        return all.isEmpty() || all.get(all.size() - 1).canEnd();
    }

    private static final class Arm {
        private Token word;
        private Token sign;
        private final List<Stmt> stmts = new ArrayList<>();
    }

    private static final class Unit {
        private final List<Enumeration> enumerations = new ArrayList<>();
        private boolean isValue;
        private Token selector;
        private final List<Arm> arms = new ArrayList<>();
        private final List<Label> labels = new ArrayList<>();
        private Token close;

        boolean isOld() {
            return !arms.isEmpty() && arms.get(0).sign.is(":");
        }

        int defaultArm() {
            for (int i = 0; i < arms.size(); i++) {
                if (arms.get(i).word.is("default")) {
                    return i;
                }
            }
            return -1;
        }

        int sort() {
            return selector.is("number") ? 0 : selector.is("text") ? 1 : 2;
        }

        List<String> constants() {
            List<String> all = new ArrayList<>();
            for (Enumeration e : enumerations) {
                if (selector != null && e.name != null && e.name.is(selector.signs()) && all.isEmpty()) {
                    e.constants.forEach(c -> all.add(c.signs()));
                }
            }
            return all;
        }
    }

    private String text = "";
    private Unit unit;
    private int place = -1;
    private List<Integer> trace;
    private int value;

    // of the reading that goes on
    private String source;
    private int at;
    private int fault;
    private Unit draft;
    private int stmtCount;
    private final List<String> scope = new ArrayList<>();

    // of the run that goes on
    private int flags;
    private int flagsUsed;
    private Map<String, Integer> values;

    // ---- the face

    int type(long v, int n) {
        if (n < 0 || n > 8) {
            return -2;
        }
        if (n > 0 && text.length() + n > 3000) {
            return -4;
        }
        StringBuilder more = new StringBuilder(n == 0 ? "" : text);
        for (int i = n - 1; i >= 0; i--) {
            more.append((char) (v >> 8 * i & 255));
        }
        text = more.toString();
        return text.length();
    }

    int read() {
        source = text;
        text = "";
        trace = null;
        value = 0;
        unit = null;
        at = 0;
        fault = 0;
        place = -1;
        draft = new Unit();
        try {
            readUnit();
        } catch (Stop stop) {
            // the tree holds what came before
        }
        judge();
        if (fault != 0) {
            return -10 - fault;
        }
        unit = draft;
        return unit.arms.size();
    }

    int place() {
        return place;
    }

    int told(int what) {
        if (what < 0 || what > 7) {
            return -2;
        }
        if (unit == null) {
            return -3;
        }
        int[] all = {unit.isValue ? 1 : 0, unit.sort(), unit.arms.size(), unit.labels.size(), stmtCount,
            unit.defaultArm(), unit.isOld() ? 1 : 0, unit.constants().size()};
        return all[what];
    }

    int label(int i, int what) {
        if (unit == null) {
            return -3;
        }
        if (i < 0 || i >= unit.labels.size()) {
            return -1;
        }
        if (what != 0 && what != 1) {
            return -2;
        }
        Label label = unit.labels.get(i);
        return what == 0 ? label.arm : label.key(unit.constants());
    }

    int run(int v, int newFlags) {
        if (unit == null) {
            return -3;
        }
        if (unit.sort() == 2 && v < 0) {
            return -2;
        }
        Object selector = unit.sort() == 1 ? text : (Object) v;
        trace = new ArrayList<>();
        value = 0;
        flags = newFlags;
        flagsUsed = 0;
        values = new HashMap<>();
        int arm = unit.defaultArm();
        for (Label label : unit.labels) {
            if (label.sign(unit.constants()).equals(selector)) {
                arm = label.arm;
            }
        }
        if (arm < 0) {
            return unit.isValue ? 5 : 1;
        }
        int last = unit.isOld() ? unit.arms.size() - 1 : arm;
        for (int i = arm; i <= last; i++) {
            int how = runAll(unit.arms.get(i).stmts);
            if (how != 0) {
                return how;
            }
        }
        return 1;
    }

    int runNone() {
        if (unit == null) {
            return -3;
        }
        trace = new ArrayList<>();
        value = 0;
        return 4;
    }

    int traced() {
        return trace == null ? -3 : trace.size();
    }

    int trace(int i) {
        return trace == null || i < 0 || i >= trace.size() ? 0 : trace.get(i);
    }

    int value() {
        return value;
    }

    int form() {
        if (unit == null) {
            return -3;
        }
        List<Integer> all = allKeys();
        if (all.isEmpty()) {
            return 2;
        }
        long n = all.size();
        long span = (long) all.get(all.size() - 1) - all.get(0) + 1;
        return 4 + span + 9 <= 3 + 2 * n + 3 * n ? 1 : 2;
    }

    int keys() {
        return unit == null ? -3 : allKeys().size();
    }

    int key(int i) {
        return unit == null || i < 0 || i >= keys() ? 0 : allKeys().get(i);
    }

    int target(int i) {
        if (unit == null) {
            return -3;
        }
        List<Label> with = labelsOf(i);
        return with.isEmpty() ? -1 : with.get(0).arm;
    }

    int alike(int i) {
        if (unit == null) {
            return -3;
        }
        List<Label> with = labelsOf(i);
        return with.isEmpty() ? -1 : with.size();
    }

    int hash() {
        return text.hashCode();
    }

    // ---- tables

    private List<Integer> allKeys() {
        Set<Integer> all = new TreeSet<>();
        for (Label label : unit.labels) {
            all.add(label.key(unit.constants()));
        }
        return new ArrayList<>(all);
    }

    private List<Label> labelsOf(int i) {
        List<Label> with = new ArrayList<>();
        if (i >= 0 && i < keys()) {
            int wanted = key(i);
            for (Label label : unit.labels) {
                if (label.key(unit.constants()) == wanted) {
                    with.add(label);
                }
            }
        }
        return with;
    }

    // ---- runs: 0 where a stmt comes to its end

    private int runAll(List<Stmt> all) {
        for (Stmt stmt : all) {
            int how = runOne(stmt);
            if (how != 0) {
                return how;
            }
        }
        return 0;
    }

    private int runOne(Stmt stmt) {
        switch (stmt.word) {
            case "add" -> trace.add(stmt.number);
            case "use" -> trace.add(values.get(stmt.name.signs()));
            case "break" -> {
                return 1;
            }
            case "yield" -> {
                value = stmt.number;
                return 2;
            }
            case "throw" -> {
                value = stmt.number;
                return 3;
            }
            case "{" -> {
                return runAll(stmt.parts);
            }
            case "if" -> {
                boolean isFirst = flagsUsed < 32 && (flags >> flagsUsed & 1) == 1;
                flagsUsed++;
                if (isFirst) {
                    return runOne(stmt.parts.get(0));
                }
                return stmt.parts.size() > 1 ? runOne(stmt.parts.get(1)) : 0;
            }
            default -> {
                if (stmt.isSetting) {
                    values.put(stmt.name.signs(), stmt.number);
                }
            }
        }
        return 0;
    }

    // ---- the tree

    private void note(Token token, int number) {
        noteAt(token.place(), number);
    }

    private void noteAt(int where, int number) {
        if (fault == 0 || where < place || (where == place && number < fault)) {
            fault = number;
            place = where;
        }
    }

    /** The next token; of THE TEXT's end one without signs. */
    private Token peek() throws Stop {
        while (at < source.length() && " \t\n\r".indexOf(source.charAt(at)) >= 0) {
            at++;
        }
        if (at == source.length()) {
            return new Token("", at);
        }
        Matcher matcher = TOKEN.matcher(source).region(at, source.length());
        if (!matcher.lookingAt()) {
            noteAt(at, 1);
            throw new Stop();
        }
        Token token = new Token(matcher.group(), at);
        int longest = token.isNumber() ? 9 : token.isText() ? 10 : 8;
        if (token.signs().length() > longest) {
            noteAt(at, 1);
            throw new Stop();
        }
        return token;
    }

    private Token take() throws Stop {
        Token token = peek();
        at += token.signs().length();
        return token;
    }

    private boolean isNext(String signs) throws Stop {
        return peek().is(signs);
    }

    private Token take(boolean fits) throws Stop {
        if (!fits) {
            note(peek(), 2);
            throw new Stop();
        }
        return take();
    }

    private Token take(String signs) throws Stop {
        return take(isNext(signs));
    }

    private Token takeName() throws Stop {
        return take(peek().isName());
    }

    private int takeNumber() throws Stop {
        return Integer.parseInt(take(peek().isNumber()).signs());
    }

    private int takeSigned() throws Stop {
        if (isNext("-")) {
            take();
            return -takeNumber();
        }
        return takeNumber();
    }

    private void readUnit() throws Stop {
        while (isNext("enum")) {
            take();
            Enumeration e = new Enumeration();
            draft.enumerations.add(e);
            e.name = takeName();
            take("{");
            e.constants.add(takeName());
            while (isNext(",")) {
                take();
                e.constants.add(takeName());
            }
            take("}");
        }
        draft.isValue = take(isNext("switch") || isNext("value")).is("value");
        draft.selector = take(isNext("number") || isNext("text") || peek().isName());
        take("{");
        while (isNext("case") || isNext("default")) {
            readArm();
        }
        draft.close = take("}");
        take("");
    }

    private void readArm() throws Stop {
        Arm arm = new Arm();
        arm.word = take();
        draft.arms.add(arm);
        if (arm.word.is("case")) {
            readLabel();
            while (isNext(",")) {
                take();
                readLabel();
            }
        }
        arm.sign = take(isNext(":") || isNext("->"));
        if (arm.sign.is("->")) {
            readBody(arm.stmts);
        } else {
            while (!isNext("case") && !isNext("default") && !isNext("}")) {
                readStmt(arm.stmts);
            }
        }
    }

    private void readLabel() throws Stop {
        Label label = new Label();
        label.arm = draft.arms.size() - 1;
        Token first = peek();
        boolean fits = first.is("-") || first.isNumber() || first.isText() || first.isName();
        label.first = take(fits);
        draft.labels.add(label);
        label.isMinus = first.is("-");
        label.last = label.isMinus ? take(peek().isNumber()) : first;
    }

    private void readBody(List<Stmt> into) throws Stop {
        Token first = peek();
        if (draft.isValue && (first.is("-") || first.isNumber())) {
            Stmt stmt = begin("yield", first, into);
            stmt.number = takeSigned();
            take(";");
            return;
        }
        boolean isSimple = first.is("add") || first.is("use") || first.is("break") || first.isName();
        if (!first.is("{") && !first.is("throw") && (draft.isValue || !isSimple)) {
            take(false);
        }
        readStmt(into);
    }

    private static Stmt begin(String word, Token first, List<Stmt> into) {
        Stmt stmt = new Stmt();
        stmt.word = word;
        stmt.first = first;
        into.add(stmt);
        return stmt;
    }

    private void readStmt(List<Stmt> into) throws Stop {
        Token first = peek();
        boolean fits = first.isName()
            || List.of("{", "let", "if", "yield", "add", "use", "break", "throw").contains(first.signs());
        take(fits);
        Stmt stmt = begin(first.isName() ? "=" : first.signs(), first, into);
        switch (stmt.word) {
            case "{" -> {
                while (!isNext("}")) {
                    readStmt(stmt.parts);
                }
                stmt.close = take();
                return;
            }
            case "if" -> {
                readStmt(stmt.parts);
                if (isNext("else")) {
                    take();
                    readStmt(stmt.parts);
                }
                return;
            }
            case "let" -> {
                stmt.name = takeName();
                if (isNext("=")) {
                    take();
                    stmt.number = takeNumber();
                    stmt.isSetting = true;
                }
            }
            case "=" -> {
                stmt.name = first;
                take("=");
                stmt.number = takeNumber();
                stmt.isSetting = true;
            }
            case "use" -> stmt.name = takeName();
            case "yield" -> stmt.number = takeSigned();
            case "add", "throw" -> stmt.number = takeNumber();
            default -> { }
        }
        take(";");
    }

    // ---- the judging, a rule at a time

    private void judge() {
        judgeEnumerations();
        judgeLabels();
        judgeArms();
        stmtCount = 0;
        scope.clear();
        for (Arm arm : draft.arms) {
            if (arm.sign != null && arm.sign.is("->")) {
                scope.clear();
            }
            judgeStmts(arm.stmts, 0);
            judgeNames(arm.stmts, new HashSet<>());
        }
        judgeEnd();
    }

    private void judgeEnumerations() {
        Set<String> seen = new HashSet<>();
        for (int i = 0; i < draft.enumerations.size(); i++) {
            Enumeration e = draft.enumerations.get(i);
            if (e.name != null && !seen.add(e.name.signs())) {
                note(e.name, 3);
            }
            if (e.name != null && i >= 4) {
                note(e.name, 12);
            }
            Set<String> inIt = new HashSet<>();
            for (int j = 0; j < e.constants.size(); j++) {
                if (!inIt.add(e.constants.get(j).signs())) {
                    note(e.constants.get(j), 3);
                }
                if (j >= 16) {
                    note(e.constants.get(j), 12);
                }
            }
        }
        Token selector = draft.selector;
        if (selector != null && selector.isName() && !seen.contains(selector.signs())) {
            note(selector, 5);
        }
    }

    private void judgeLabels() {
        List<String> constants = draft.constants();
        Set<Object> seen = new HashSet<>();
        for (int i = 0; i < draft.labels.size(); i++) {
            Label label = draft.labels.get(i);
            boolean isOfSort = switch (draft.sort()) {
                case 0 -> label.isMinus || label.first.isNumber();
                case 1 -> label.first.isText();
                default -> constants.contains(label.first.signs());
            };
            if (!isOfSort) {
                note(label.first, 5);
            } else if (label.last != null && !seen.add(label.sign(constants))) {
                note(label.first, 3);
            }
            if (i >= 32) {
                note(label.first, 12);
            }
        }
    }

    private void judgeArms() {
        boolean hasDefault = false;
        Token firstSign = null;
        for (int i = 0; i < draft.arms.size(); i++) {
            Arm arm = draft.arms.get(i);
            if (arm.word.is("default") && hasDefault) {
                note(arm.word, 3);
            }
            hasDefault |= arm.word.is("default");
            if (i >= 20) {
                note(arm.word, 12);
            }
            if (firstSign == null) {
                firstSign = arm.sign;
            } else if (arm.sign != null && !arm.sign.is(firstSign.signs())) {
                note(arm.sign, 4);
            }
        }
    }

    /** What has nothing to do with NAMES: 8, 9, 10 of blocks behind arrows, 12. */
    private void judgeStmts(List<Stmt> all, int within) {
        for (int i = 0; i < all.size(); i++) {
            Stmt stmt = all.get(i);
            stmtCount++;
            if (stmtCount > 120 || within > 10) {
                note(stmt.first, 12);
            }
            if (stmt.word.equals(draft.isValue ? "break" : "yield")) {
                note(stmt.first, 8);
            }
            if (i > 0 && !all.get(i - 1).canEnd()) {
                note(stmt.first, 9);
            }
            if (stmt.word.equals("if")) {
                for (Stmt branch : stmt.parts) {
                    judgeStmts(List.of(branch), within + 1);
                }
            } else {
                judgeStmts(stmt.parts, within + 1);
            }
        }
    }

    /** Which NAMES are SET behind the stmts; null where all are. */
    private Set<String> judgeNames(List<Stmt> all, Set<String> before) {
        Set<String> set = before;
        for (Stmt stmt : all) {
            set = judgeNamesOf(stmt, set);
        }
        return set;
    }

    private Set<String> judgeNamesOf(Stmt stmt, Set<String> before) {
        return switch (stmt.word) {
            case "break", "yield", "throw" -> null;
            case "{" -> {
                int size = scope.size();
                Set<String> behind = judgeNames(stmt.parts, before);
                while (scope.size() > size) {
                    String gone = scope.remove(size);
                    behind = behind == null ? null : without(behind, gone);
                }
                yield behind;
            }
            case "if" -> {
                Set<String> first = stmt.parts.isEmpty() ? before : judgeNamesOf(stmt.parts.get(0), before);
                Set<String> second = stmt.parts.size() < 2 ? before : judgeNamesOf(stmt.parts.get(1), before);
                yield inBoth(first, second);
            }
            case "let" -> {
                if (stmt.name != null) {
                    judgeLet(stmt.name);
                }
                yield behindSetting(stmt, before);
            }
            case "=" -> {
                if (!scope.contains(stmt.first.signs())) {
                    note(stmt.first, 7);
                }
                yield behindSetting(stmt, before);
            }
            case "use" -> {
                Token name = stmt.name;
                if (name != null && (!scope.contains(name.signs()) || before != null && !before.contains(name.signs()))) {
                    note(name, 7);
                }
                yield before;
            }
            default -> before;
        };
    }

    private void judgeLet(Token name) {
        if (scope.contains(name.signs())) {
            note(name, 6);
        }
        if (scope.size() >= 20) {
            note(name, 12);
        }
        scope.add(name.signs());
    }

    private static Set<String> behindSetting(Stmt stmt, Set<String> before) {
        if (before == null || !stmt.isSetting) {
            return before;
        }
        Set<String> behind = new HashSet<>(before);
        behind.add(stmt.name.signs());
        return behind;
    }

    private static Set<String> without(Set<String> all, String one) {
        Set<String> left = new HashSet<>(all);
        left.remove(one);
        return left;
    }

    private static Set<String> inBoth(Set<String> first, Set<String> second) {
        if (first == null || second == null) {
            return first == null ? second : first;
        }
        Set<String> both = new HashSet<>(first);
        both.retainAll(second);
        return both;
    }

    private void judgeEnd() {
        if (!draft.isValue) {
            return;
        }
        boolean hasDefault = false;
        for (Arm arm : draft.arms) {
            hasDefault |= arm.word.is("default");
            if (arm.sign != null && arm.sign.is("->") && !arm.stmts.isEmpty()) {
                Stmt body = arm.stmts.get(0);
                if (body.close != null && body.canEnd()) {
                    note(body.close, 10);
                }
            }
        }
        if (draft.close == null) {
            return;
        }
        Arm last = draft.arms.isEmpty() ? null : draft.arms.get(draft.arms.size() - 1);
        if (last != null && last.sign.is(":") && listCanEnd(last.stmts)) {
            note(draft.close, 10);
        }
        Set<String> inLabels = new HashSet<>();
        draft.labels.forEach(label -> inLabels.add(label.first.signs()));
        boolean hasAll = draft.sort() == 2 && inLabels.containsAll(draft.constants());
        if (!hasDefault && !hasAll) {
            note(draft.close, 11);
        }
    }
}
