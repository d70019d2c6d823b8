import java.math.BigInteger;
import java.util.ArrayDeque;
import java.util.ArrayList;
import java.util.Deque;
import java.util.HashMap;
import java.util.HashSet;
import java.util.List;
import java.util.Map;
import java.util.Set;
import java.util.TreeMap;
import java.util.function.BiPredicate;

/**
 * The document once more, as plainly as the Java library lets one say it: by trying all, without care for speed or room.
 * It shares no code with the class, so that the two can be held against each other.
 */
final class Model {
    static final class Fault extends Exception {
        private static final long serialVersionUID = 1;
        final int kind;
        final int place;

        Fault(int kind, int place) {
            super(kind + " at " + place);
            this.kind = kind;
            this.place = place;
        }
    }

    record Token(char sort, String text, int place) {
    }

    interface Law {
        int value(Map<String, Integer> names);
    }

    static final class Plan {
        int farms = 2;
        int moments = 2;
        int lines;
        int now;
        List<int[]> bits = new ArrayList<>();
        int[] wish = new int[8];
        int[] mood = new int[8];
        int[] snow = new int[8];
        boolean[] cut = new boolean[8];
        Law tells;
        Law hears;
        Law likes;
    }

    static final class State {
        int[] moment = new int[8];
        int[] doubts = new int[8];
        int[] mood = new int[8];
        boolean[] cut = new boolean[8];
        int turn;
        int told;

        State copy() {
            State s = new State();
            s.moment = moment.clone();
            s.doubts = doubts.clone();
            s.mood = mood.clone();
            s.cut = cut.clone();
            s.turn = turn;
            s.told = told;
            return s;
        }
    }

    /** Reads a text by going down its grammar. */
    static final class Parser {
        private final List<Token> tokens = new ArrayList<>();
        private int next;
        private final Plan plan = new Plan();

        Parser(String text) {
            int i = 0;
            while (i < text.length()) {
                char c = text.charAt(i);
                int j = i + 1;
                if (c == ' ' || c == '\n') {
                    i++;
                    continue;
                }
                char sort = "; : + - * ( ) [ ] = < >".indexOf(c) >= 0 ? 's' : '?';
                if (c >= 'a' && c <= 'z') {
                    while (j < text.length() && text.charAt(j) >= 'a' && text.charAt(j) <= 'z') {
                        j++;
                    }
                    sort = 'w';
                } else if (c >= '0' && c <= '9') {
                    while (j < text.length() && text.charAt(j) >= '0' && text.charAt(j) <= '9') {
                        j++;
                    }
                    sort = j - i <= 3 ? 'n' : '?';
                }
                tokens.add(new Token(sort, text.substring(i, j), i));
                i = j;
            }
            tokens.add(new Token('e', "", text.length()));
        }

        private Token at() {
            return tokens.get(next);
        }

        private boolean is(String text) {
            return at().sort() != '?' && at().sort() != 'e' && at().text().equals(text);
        }

        private Fault wrong(int kind) {
            return new Fault(at().sort() == '?' ? 1 : kind, at().place());
        }

        private void must(String text) throws Fault {
            if (!is(text)) {
                throw wrong(2);
            }
            next++;
        }

        private int n(int low, int high) throws Fault {
            if (at().sort() != 'n') {
                throw wrong(2);
            }
            int v = Integer.parseInt(at().text());
            if (v < low || v > high) {
                throw wrong(3);
            }
            next++;
            return v;
        }

        Plan plan() throws Fault {
            must("farms");
            plan.farms = n(2, 8);
            must("moments");
            plan.moments = n(2, 8);
            must(";");
            plan.lines = 1;
            while (at().sort() != 'e') {
                oneLine();
                must(";");
                plan.lines++;
            }
            return plan;
        }

        private void oneLine() throws Fault {
            if (is("bit")) {
                if (plan.bits.size() == 12) {
                    throw wrong(4);
                }
                next++;
                int from = n(0, plan.moments - 1);
                must("to");
                int to = n(0, plan.moments - 1);
                int must = is("must") ? 1 : 0;
                next += must;
                plan.bits.add(new int[] {from, to, must});
            } else if (is("farm")) {
                next++;
                int f = n(0, plan.farms - 1);
                while (is("wish") || is("mood")) {
                    boolean wish = is("wish");
                    next++;
                    int v = n(0, wish ? plan.moments - 1 : 9);
                    (wish ? plan.wish : plan.mood)[f] = v;
                }
            } else if (is("cut")) {
                next++;
                plan.cut[n(0, plan.farms - 2)] = true;
            } else if (is("snow")) {
                next++;
                int s = n(0, 10);
                must("at");
                plan.snow[n(0, plan.farms - 2)] = s;
            } else if (is("now")) {
                next++;
                plan.now = n(0, plan.moments - 1);
            } else {
                law();
            }
        }

        private void law() throws Fault {
            String name = at().text();
            if (is("tells") || is("hears") || is("likes")) {
                next++;
                must(":");
                switch (name) {
                    case "tells" -> plan.tells = truth(List.of("farm", "mood", "bit", "from", "to"), 0);
                    case "hears" -> plan.hears = truth(List.of("farm", "mood", "teller", "far"), 0);
                    default -> plan.likes = sum(List.of("farm", "mood", "moment"), 0);
                }
            } else {
                throw wrong(2);
            }
        }

        private Law truth(List<String> names, int open) throws Fault {
            Law left = both(names, open);
            while (is("or")) {
                next++;
                Law l = left;
                Law r = both(names, open);
                left = v -> l.value(v) + r.value(v) > 0 ? 1 : 0;
            }
            return left;
        }

        private Law both(List<String> names, int open) throws Fault {
            Law left = unit(names, open);
            while (is("and")) {
                next++;
                Law l = left;
                Law r = unit(names, open);
                left = v -> l.value(v) * r.value(v);
            }
            return left;
        }

        private void opening(int open) throws Fault {
            if (open == 6) {
                throw wrong(4);
            }
            next++;
        }

        private Law unit(List<String> names, int open) throws Fault {
            if (is("not")) {
                opening(open);
                Law u = unit(names, open + 1);
                return v -> u.value(v) == 0 ? 1 : 0;
            }
            if (is("[")) {
                opening(open);
                Law t = truth(names, open + 1);
                must("]");
                return t;
            }
            Law l = sum(names, open);
            String sign = at().text();
            if (!is("=") && !is("<") && !is(">")) {
                throw wrong(2);
            }
            next++;
            Law r = sum(names, open);
            return v -> {
                int c = Integer.compare(l.value(v), r.value(v));
                return sign.equals("=") && c == 0 || sign.equals("<") && c < 0 || sign.equals(">") && c > 0 ? 1 : 0;
            };
        }

        private static int kept(long v) {
            return v > 1000000 ? 1000000 : v < -1000000 ? -1000000 : (int) v;
        }

        private Law sum(List<String> names, int open) throws Fault {
            Law left = term(names, open);
            while (is("+") || is("-")) {
                long sign = is("+") ? 1 : -1;
                next++;
                Law l = left;
                Law r = term(names, open);
                left = v -> kept(l.value(v) + sign * r.value(v));
            }
            return left;
        }

        private Law term(List<String> names, int open) throws Fault {
            Law left = atom(names, open);
            while (is("*")) {
                next++;
                Law l = left;
                Law r = atom(names, open);
                left = v -> kept((long) l.value(v) * r.value(v));
            }
            return left;
        }

        private Law atom(List<String> names, int open) throws Fault {
            if (is("(")) {
                opening(open);
                Law s = sum(names, open + 1);
                must(")");
                return s;
            }
            String text = at().text();
            if (at().sort() == 'n') {
                int v = Integer.parseInt(text);
                next++;
                return names2 -> v;
            }
            if (at().sort() == 'w' && names.contains(text)) {
                next++;
                return names2 -> names2.get(text);
            }
            throw wrong(2);
        }
    }

    private String tape = "";
    private Plan plan = new Plan();
    private State s = new State();
    private Deque<State> past = new ArrayDeque<>();
    private int faultKind;
    private int faultPlace = -1;
    private final long[][] trays = new long[4][];
    private final int[] sorts = new int[4];
    private final Plan[] imagePlans = new Plan[2];
    private final State[] imageStates = new State[2];

    // ---- words of the document

    private boolean farmIs(int f) {
        return f >= 0 && f < plan.farms;
    }

    private boolean momentIs(int m) {
        return m >= 0 && m < plan.moments;
    }

    private boolean bitIs(int b) {
        return b >= 0 && b < plan.bits.size();
    }

    private boolean may(int f, int b) {
        int[] bit = plan.bits.get(b);
        return plan.tells == null
            || plan.tells.value(Map.of("farm", f, "mood", s.mood[f], "bit", b, "from", bit[0], "to", bit[1])) == 1;
    }

    private boolean someMay(int b) {
        for (int f = 0; f < plan.farms; f++) {
            if (may(f, b)) {
                return true;
            }
        }
        return false;
    }

    private boolean hears(int f, int g) {
        if (f == g) {
            return false;
        }
        for (int k = Math.min(f, g); k < Math.max(f, g); k++) {
            if (s.cut[k]) {
                return false;
            }
        }
        return plan.hears == null
            || plan.hears.value(Map.of("farm", f, "mood", s.mood[f], "teller", g, "far", Math.abs(f - g))) == 1;
    }

    private int liking(int f, int m) {
        return plan.likes == null ? plan.wish[f] == m ? 1 : 0
            : plan.likes.value(Map.of("farm", f, "mood", s.mood[f], "moment", m));
    }

    private int why(long v) {
        if (v >= 0 && v <= 899) {
            int f = (int) v / 100;
            int b = (int) v % 100;
            return !farmIs(f) || !bitIs(b) ? 1 : s.moment[f] != plan.bits.get(b)[0] ? 2 : may(f, b) ? 0 : 3;
        }
        if (v >= 1000 && v <= 1009) {
            return v - 1000 < plan.farms - 1 ? 0 : 1;
        }
        if (v >= 2000 && v <= 2099) {
            return (v - 2000) / 10 < plan.farms ? 0 : 1;
        }
        return v == -1 ? 0 : 1;
    }

    private void doIt(long v) {
        if (v == -1) {
            for (int b = 0; b < plan.bits.size(); b++) {
                if (why(s.turn * 100 + b) == 0) {
                    doIt(s.turn * 100 + b);
                    break;
                }
            }
            s.turn = (s.turn + 1) % plan.farms;
        } else if (v < 900) {
            int f = (int) v / 100;
            int[] bit = plan.bits.get((int) v % 100);
            for (int g = 0; g < plan.farms; g++) {
                if (hears(g, f)) {
                    s.doubts[g] += s.moment[g] == bit[0] ? 0 : 1;
                    s.moment[g] = bit[1];
                }
            }
            s.moment[f] = bit[1];
            s.told++;
        } else if (v < 2000) {
            s.cut[(int) v - 1000] = !s.cut[(int) v - 1000];
        } else {
            s.mood[(int) v / 10 % 10] = (int) v % 10;
        }
    }

    private void remember(State was) {
        past.push(was);
        if (past.size() > 10) {
            past.removeLast();
        }
    }

    private static int set(int n, java.util.function.IntPredicate in) {
        int answer = 0;
        for (int i = 0; i < n; i++) {
            answer += in.test(i) ? 1 << i : 0;
        }
        return answer;
    }

    /** Rows of labels, level by level, of each place only the first one kept. */
    private static List<Integer> firstShortest(long start, java.util.function.LongPredicate goal,
            java.util.function.LongFunction<TreeMap<Integer, Long>> moves) {
        Map<Long, List<Integer>> level = new HashMap<>();
        Set<Long> seen = new HashSet<>();
        level.put(start, List.of());
        seen.add(start);
        while (!level.isEmpty()) {
            List<Integer> best = null;
            for (Map.Entry<Long, List<Integer>> e : level.entrySet()) {
                if (goal.test(e.getKey()) && (best == null || earlier(e.getValue(), best))) {
                    best = e.getValue();
                }
            }
            if (best != null) {
                return best;
            }
            Map<Long, List<Integer>> further = new HashMap<>();
            for (Map.Entry<Long, List<Integer>> e : level.entrySet()) {
                for (Map.Entry<Integer, Long> move : moves.apply(e.getKey()).entrySet()) {
                    List<Integer> row = new ArrayList<>(e.getValue());
                    row.add(move.getKey());
                    List<Integer> other = further.get(move.getValue());
                    if (!seen.contains(move.getValue()) && (other == null || earlier(row, other))) {
                        further.put(move.getValue(), row);
                    }
                }
            }
            seen.addAll(further.keySet());
            level = further;
        }
        return null;
    }

    private static boolean earlier(List<Integer> a, List<Integer> b) {
        for (int i = 0; i < a.size(); i++) {
            if (!a.get(i).equals(b.get(i))) {
                return a.get(i) < b.get(i);
            }
        }
        return false;
    }

    private List<Integer> wayOf(int from, int to, boolean full) {
        int must = full ? set(plan.bits.size(), b -> plan.bits.get(b)[2] == 1) : 0;
        return firstShortest(from, p -> p % 8 == to && p / 8 == must, p -> {
            TreeMap<Integer, Long> moves = new TreeMap<>();
            for (int b = 0; b < plan.bits.size(); b++) {
                if (plan.bits.get(b)[0] == p % 8 && someMay(b)) {
                    moves.put(b, (p / 8 | must & 1 << b) * 8 + plan.bits.get(b)[1]);
                }
            }
            return moves;
        });
    }

    private List<Integer> joining(int f, int g) {
        return firstShortest(s.moment[f] * 8 + s.moment[g], p -> p / 8 == p % 8, p -> {
            TreeMap<Integer, Long> moves = new TreeMap<>();
            for (int b = 0; b < plan.bits.size(); b++) {
                long to = plan.bits.get(b)[1];
                if (plan.bits.get(b)[0] == p / 8 && may(f, b)) {
                    moves.put(f * 100 + b, to * 8 + (hears(g, f) ? to : p % 8));
                }
                if (plan.bits.get(b)[0] == p % 8 && may(g, b)) {
                    moves.put(g * 100 + b, (hears(f, g) ? to : p / 8) * 8 + to);
                }
            }
            return moves;
        });
    }

    private static int place(List<Integer> row, int i) {
        return row == null || i >= row.size() ? -1 : row.get(i);
    }

    private BigInteger waysOf(int from, int to, int n, Map<Integer, BigInteger> known) {
        if (n == 0) {
            return from == to ? BigInteger.ONE : BigInteger.ZERO;
        }
        BigInteger before = known.get(n * 8 + from);
        if (before != null) {
            return before;
        }
        BigInteger sum = BigInteger.ZERO;
        for (int b = 0; b < plan.bits.size(); b++) {
            if (plan.bits.get(b)[0] == from && someMay(b)) {
                sum = sum.add(waysOf(plan.bits.get(b)[1], to, n - 1, known));
            }
        }
        known.put(n * 8 + from, sum);
        return sum;
    }

    /** Whether the friends bring it to a moment within n turns, told just as the document says it. */
    private boolean forced(int at, int turn, int goal, int n, int friends, Map<Integer, Boolean> known) {
        if (at == goal) {
            return true;
        }
        if (n == 0) {
            return false;
        }
        int key = (n * 8 + turn) * 8 + at;
        if (known.containsKey(key)) {
            return known.get(key);
        }
        int next = (turn + 1) % plan.farms;
        List<Boolean> outcomes = new ArrayList<>();
        for (int b = 0; b < plan.bits.size(); b++) {
            if (plan.bits.get(b)[0] == at && may(turn, b)) {
                outcomes.add(forced(plan.bits.get(b)[1], next, goal, n - 1, friends, known));
            }
        }
        if (outcomes.isEmpty()) {
            outcomes.add(forced(at, next, goal, n - 1, friends, known));
        }
        boolean answer = (friends >> turn & 1) == 1 ? outcomes.contains(true) : !outcomes.contains(false);
        known.put(key, answer);
        return answer;
    }

    private int turnsFor(int f, int m, int friends) {
        Map<Integer, Boolean> known = new HashMap<>();
        for (int n = 0; n <= 70; n++) {
            if (forced(s.moment[f], s.turn, m, n, friends, known)) {
                return n;
            }
        }
        return -1;
    }

    /** Rows of bits that fit, with one bit fixed at one place (or NONE). */
    private long seenRows(long[] seen, int at, int i, int place, int bit, Map<Integer, Long> known) {
        if (i == seen.length) {
            return 1;
        }
        Long before = known.get(i * 8 + at);
        if (before != null) {
            return before;
        }
        long sum = 0;
        for (int b = 0; b < plan.bits.size(); b++) {
            int[] one = plan.bits.get(b);
            if (one[0] == at && someMay(b) && (seen[i] == -1 || seen[i] == one[1]) && (i != place || b == bit)) {
                sum += seenRows(seen, one[1], i + 1, place, bit, known);
            }
        }
        known.put(i * 8 + at, sum);
        return sum;
    }

    private long toldRows(long[] told, int last, int i, int place, int farm, Map<Integer, Long> known) {
        if (i == told.length) {
            return 1;
        }
        Long before = known.get(i * 10 + last + 1);
        if (before != null) {
            return before;
        }
        long sum = 0;
        for (int f = 0; f < plan.farms; f++) {
            if (f != last && may(f, (int) told[i]) && (i != place || f == farm)) {
                sum += toldRows(told, f, i + 1, place, farm, known);
            }
        }
        known.put(i * 10 + last + 1, sum);
        return sum;
    }

    /** How likely it is, by going through all that snow can do, as a fraction in lowest terms. */
    private BigInteger[] likely(int f, int g) {
        int wires = plan.farms - 1;
        BigInteger above = BigInteger.ZERO;
        for (int fall = 0; fall < 1 << wires; fall++) {
            BigInteger weight = BigInteger.ONE;
            boolean whole = true;
            for (int k = 0; k < wires; k++) {
                boolean hit = (fall >> k & 1) == 1;
                weight = weight.multiply(BigInteger.valueOf(hit ? plan.snow[k] : 10 - plan.snow[k]));
                boolean between = k >= Math.min(f, g) && k < Math.max(f, g);
                whole &= !between || !hit && !s.cut[k];
            }
            above = whole ? above.add(weight) : above;
        }
        BigInteger below = BigInteger.TEN.pow(wires);
        BigInteger shared = above.gcd(below);
        return new BigInteger[] {above.divide(shared), below.divide(shared)};
    }

    private int seenCode(int tray, int from) {
        return tray < 0 || tray > 3 || !momentIs(from) ? -2 : rowCode(tray, -1, plan.moments);
    }

    private int toldCode(int tray) {
        return tray < 0 || tray > 3 ? -2 : rowCode(tray, 0, plan.bits.size());
    }

    private int rowCode(int tray, int low, int bound) {
        long[] row = trays[tray];
        if (row == null) {
            return -6;
        }
        if (row.length < 1 || row.length > 12) {
            return -4;
        }
        for (long v : row) {
            if (v < low || v >= bound) {
                return -3;
            }
        }
        return 0;
    }

    private boolean pair(int f, int g) {
        return farmIs(f) && farmIs(g) && f != g;
    }

    private int thought() {
        return Integer.bitCount(set(8, m -> set(plan.farms, f -> s.moment[f] == m) != 0));
    }

    private int doubtsOfAll() {
        int sum = 0;
        for (int f = 0; f < plan.farms; f++) {
            sum += s.doubts[f];
        }
        return sum;
    }

    // ---- the calls

    int feed(int[] five) {
        if (tape.length() + 20 > 900) {
            return -5;
        }
        StringBuilder more = new StringBuilder(tape);
        for (int i : five) {
            more.append((char) (i >>> 24)).append((char) (i >>> 16 & 255)).append((char) (i >>> 8 & 255)).append((char) (i & 255));
        }
        tape = more.toString();
        return tape.length();
    }

    int line(int n) {
        if (n < 0 || n > tape.length()) {
            return -3;
        }
        String text = tape.substring(0, n);
        tape = "";
        try {
            plan = new Parser(text).plan();
            s = new State();
            for (int f = 0; f < 8; f++) {
                s.moment[f] = plan.now;
            }
            s.mood = plan.mood.clone();
            s.cut = plan.cut.clone();
            past.clear();
            faultKind = 0;
            faultPlace = -1;
            return plan.lines;
        } catch (Fault fault) {
            faultKind = fault.kind;
            faultPlace = fault.place;
            return -30 - fault.kind;
        }
    }

    int fault(int what) {
        return what == 0 ? faultKind : what == 1 ? faultPlace : -1;
    }

    int farm(int f, int what) {
        if (!farmIs(f) || what < 0 || what > 5) {
            return -2;
        }
        return switch (what) {
            case 0 -> s.moment[f];
            case 1 -> s.doubts[f];
            case 2 -> s.mood[f];
            case 3 -> plan.wish[f];
            case 4 -> set(plan.farms, g -> hears(f, g));
            default -> set(plan.bits.size(), b -> why(f * 100 + b) == 0);
        };
    }

    int bit(int b, int what) {
        if (!bitIs(b) || what < 0 || what > 3) {
            return -2;
        }
        return what < 3 ? plan.bits.get(b)[what] : set(plan.farms, f -> may(f, b));
    }

    int wire(int k, int what) {
        if (k < 0 || k > plan.farms - 2 || what < 0 || what > 1) {
            return -2;
        }
        return what == 1 ? plan.snow[k] : s.cut[k] ? 1 : 0;
    }

    int likes(int f, int m) {
        return farmIs(f) && momentIs(m) ? liking(f, m) : -99000002;
    }

    int tell(int f, int b) {
        int why = farmIs(f) && bitIs(b) ? why(f * 100 + b) : 1;
        if (why != 0) {
            return -10 - why;
        }
        remember(s.copy());
        doIt(f * 100 + b);
        return Integer.bitCount(heardBy(f));
    }

    int cut(int k) {
        if (k < 0 || k > plan.farms - 2) {
            return -11;
        }
        remember(s.copy());
        doIt(1000 + k);
        return s.cut[k] ? 1 : 0;
    }

    int mood(int f, int n) {
        if (!farmIs(f) || n < 0 || n > 9) {
            return -11;
        }
        remember(s.copy());
        int was = s.mood[f];
        s.mood[f] = n;
        return was;
    }

    int go(int n) {
        if (n < 1 || n > 99) {
            return -3;
        }
        State was = s.copy();
        for (int i = 0; i < n; i++) {
            doIt(-1);
        }
        remember(was);
        return s.told - was.told;
    }

    int undo(int n) {
        if (n < 1 || n > past.size()) {
            return -3;
        }
        for (int i = 0; i < n; i++) {
            s = past.pop();
        }
        return past.size();
    }

    int judge(int tray, int what) {
        if (tray < 0 || tray > 3 || what < 0 || what > 3) {
            return -2;
        }
        if (trays[tray] == null) {
            return -6;
        }
        State was = s.copy();
        int done = doTray(tray);
        boolean all = done == trays[tray].length;
        int answer = switch (what) {
            case 0 -> all ? -1 : done;
            case 1 -> all ? 0 : why(trays[tray][done]);
            case 2 -> thought();
            default -> doubtsOfAll();
        };
        s = was;
        return answer;
    }

    private int doTray(int tray) {
        int done = 0;
        while (done < trays[tray].length && why(trays[tray][done]) == 0) {
            doIt(trays[tray][done]);
            done++;
        }
        return done;
    }

    int perform(int tray) {
        if (tray < 0 || tray > 3) {
            return -2;
        }
        if (trays[tray] == null) {
            return -6;
        }
        State was = s.copy();
        int done = doTray(tray);
        if (done > 0) {
            remember(was);
        }
        return done;
    }

    int winter(int seed, int times) {
        if (times < 1 || times > 40) {
            return -3;
        }
        State was = s.copy();
        int[] x = {seed};
        java.util.function.IntUnaryOperator draw = bound -> {
            x[0] = x[0] * 1103515245 + 12345;
            return (x[0] >>> 16) % bound;
        };
        int could = 0;
        for (int i = 0; i < times; i++) {
            long deed = switch (draw.applyAsInt(5)) {
                case 2 -> draw.applyAsInt(8) * 100 + draw.applyAsInt(12);
                case 3 -> 1000 + draw.applyAsInt(8);
                case 4 -> 2000 + draw.applyAsInt(8) * 10 + draw.applyAsInt(10);
                default -> -1;
            };
            if (why(deed) == 0) {
                doIt(deed);
                could++;
            }
        }
        if (could > 0) {
            remember(was);
        }
        return could;
    }

    int heardBy(int f) {
        return farmIs(f) ? set(plan.farms, g -> hears(g, f)) : -2;
    }

    int ear() {
        int best = 0;
        for (int f = 1; f < plan.farms; f++) {
            best = Integer.bitCount(farm(f, 4)) > Integer.bitCount(farm(best, 4)) ? f : best;
        }
        return best;
    }

    int needs(int f, int g) {
        if (!pair(f, g)) {
            return -2;
        }
        return !hears(f, g) ? 0 : set(plan.farms - 1, k -> {
            boolean was = s.cut[k];
            s.cut[k] = true;
            boolean still = hears(f, g);
            s.cut[k] = was;
            return !still;
        });
    }

    int pieces() {
        int pieces = 1;
        for (int k = 0; k < plan.farms - 1; k++) {
            pieces += s.cut[k] ? 1 : 0;
        }
        return pieces;
    }

    int listeners() {
        for (int size = 1; size <= plan.farms; size++) {
            for (int set = 1; set < 1 << plan.farms; set++) {
                int all = set;
                for (int f = 0; f < plan.farms; f++) {
                    all |= (set >> f & 1) == 1 ? farm(f, 4) : 0;
                }
                if (Integer.bitCount(set) == size && all == (1 << plan.farms) - 1) {
                    return set;
                }
            }
        }
        return -1;
    }

    int reach(int m) {
        return momentIs(m) ? set(plan.moments, to -> wayOf(m, to, false) != null) : -2;
    }

    int fewest(int from, int to) {
        return length(from, to, false);
    }

    int full(int from, int to) {
        return length(from, to, true);
    }

    private int length(int from, int to, boolean full) {
        if (!momentIs(from) || !momentIs(to)) {
            return -2;
        }
        List<Integer> way = wayOf(from, to, full);
        return way == null ? -1 : way.size();
    }

    int way(int from, int to, int i) {
        return !momentIs(from) || !momentIs(to) ? -2 : i < 0 ? -3 : place(wayOf(from, to, false), i);
    }

    int fullWay(int from, int to, int i) {
        return !momentIs(from) || !momentIs(to) ? -2 : i < 0 ? -3 : place(wayOf(from, to, true), i);
    }

    long ways(int from, int to, int n) {
        return !momentIs(from) || !momentIs(to) ? -2 : n < 0 || n > 15 ? -3 : waysOf(from, to, n, new HashMap<>()).longValueExact();
    }

    int ends() {
        return set(plan.moments, m -> set(plan.bits.size(), b -> plan.bits.get(b)[0] == m && someMay(b)) == 0);
    }

    int forces(int f, int m) {
        return farmIs(f) && momentIs(m) ? turnsFor(f, m, 1 << f) : -2;
    }

    int power(int f) {
        return farmIs(f) ? set(plan.moments, m -> turnsFor(f, m, 1 << f) >= 0) : -2;
    }

    int best(int f, int m) {
        if (!farmIs(f) || !momentIs(m)) {
            return -2;
        }
        if (s.turn != f) {
            return -5;
        }
        int n = turnsFor(f, m, 1 << f);
        for (int b = 0; n > 0 && b < plan.bits.size(); b++) {
            int[] bit = plan.bits.get(b);
            if (bit[0] == s.moment[f] && may(f, b)
                && forced(bit[1], (f + 1) % plan.farms, m, n - 1, 1 << f, new HashMap<>())) {
                return b;
            }
        }
        return -1;
    }

    int ally(int f, int m) {
        if (!farmIs(f) || !momentIs(m)) {
            return -2;
        }
        for (int g = 0; g < plan.farms && turnsFor(f, m, 1 << f) == -1; g++) {
            if (g != f && turnsFor(f, m, 1 << f | 1 << g) >= 0) {
                return g;
            }
        }
        return -1;
    }

    int tales() {
        return thought();
    }

    int joins(int f, int g) {
        if (!pair(f, g)) {
            return -2;
        }
        List<Integer> row = joining(f, g);
        return row == null ? -1 : row.size();
    }

    int joinBy(int f, int g, int i) {
        return !pair(f, g) ? -2 : i < 0 ? -3 : place(joining(f, g), i);
    }

    long rows(int tray, int from) {
        int code = seenCode(tray, from);
        return code != 0 ? code : seenRows(trays[tray], from, 0, -1, -1, new HashMap<>());
    }

    int sureBit(int tray, int from, int place) {
        int code = seenCode(tray, from);
        if (code != 0) {
            return code;
        }
        if (place < 0 || place >= trays[tray].length) {
            return -7;
        }
        long all = rows(tray, from);
        for (int b = 0; b < plan.bits.size(); b++) {
            if (all > 0 && seenRows(trays[tray], from, 0, place, b, new HashMap<>()) == all) {
                return b;
            }
        }
        return -1;
    }

    long tellers(int tray) {
        int code = toldCode(tray);
        return code != 0 ? code : toldRows(trays[tray], -1, 0, -1, -1, new HashMap<>());
    }

    int teller(int tray, int place) {
        int code = toldCode(tray);
        if (code != 0) {
            return code;
        }
        return place < 0 || place >= trays[tray].length ? -7
            : set(plan.farms, f -> toldRows(trays[tray], -1, 0, place, f, new HashMap<>()) > 0);
    }

    int better() {
        BiPredicate<Integer, Integer> less = (f, m) -> liking(f, m) < liking(f, s.moment[f]);
        BiPredicate<Integer, Integer> more = (f, m) -> liking(f, m) > liking(f, s.moment[f]);
        return set(plan.moments, m -> set(plan.farms, f -> less.test(f, m)) == 0 && set(plan.farms, f -> more.test(f, m)) != 0);
    }

    int fairest() {
        int best = -1;
        int most = Integer.MIN_VALUE;
        for (int m = 0; m < plan.moments; m++) {
            int least = Integer.MAX_VALUE;
            for (int f = 0; f < plan.farms; f++) {
                least = Math.min(least, liking(f, m));
            }
            if (least > most) {
                most = least;
                best = m;
            }
        }
        return best;
    }

    long snow(int f, int g, int what) {
        return !pair(f, g) || what < 0 || what > 1 ? -2 : likely(f, g)[what].longValueExact();
    }

    int left(int f, int m) {
        if (!farmIs(f)) {
            return -2;
        }
        if (m < 0 || m > 100) {
            return -3;
        }
        int answer = 0;
        for (int g = 0; g < plan.farms; g++) {
            BigInteger[] p = likely(f, g);
            answer += g != f && p[0].multiply(BigInteger.valueOf(100)).compareTo(p[1].multiply(BigInteger.valueOf(m))) >= 0 ? 1 : 0;
        }
        return answer;
    }

    int numbers(int tray, int sort, int n) {
        if (tray < 0 || tray > 3 || sort < 0 || sort > 3) {
            return -2;
        }
        if (n < 0 || n > 40) {
            return -3;
        }
        trays[tray] = new long[n];
        sorts[tray] = sort;
        return 0;
    }

    long write(int tray, int i, long v) {
        if (tray < 0 || tray > 3) {
            return -2;
        }
        if (trays[tray] == null) {
            return -6;
        }
        if (i < 0 || i >= trays[tray].length) {
            return -7;
        }
        int drop = 64 - (8 << sorts[tray]);
        trays[tray][i] = v << drop >> drop;
        return trays[tray][i];
    }

    int lists(int tray, int from, int to) {
        if (tray < 0 || tray > 3 || !momentIs(from) || !momentIs(to)) {
            return -2;
        }
        if (trays[tray] == null) {
            return -6;
        }
        List<Integer> way = wayOf(from, to, false);
        if (way == null) {
            return -5;
        }
        int n = Math.min(way.size(), trays[tray].length);
        for (int i = 0; i < n; i++) {
            trays[tray][i] = way.get(i);
        }
        return n;
    }

    int image(int i) {
        if (i < 0 || i > 1) {
            return -2;
        }
        imagePlans[i] = plan;
        imageStates[i] = s.copy();
        return 0;
    }

    int restore(int i) {
        if (i < 0 || i > 1) {
            return -2;
        }
        if (imagePlans[i] == null) {
            return -5;
        }
        plan = imagePlans[i];
        s = imageStates[i].copy();
        past.clear();
        return 0;
    }

    int count(int what) {
        return switch (what) {
            case 0 -> plan.farms;
            case 1 -> plan.moments;
            case 2 -> plan.bits.size();
            case 3 -> set(plan.bits.size(), b -> plan.bits.get(b)[2] == 1);
            case 4 -> set(plan.farms - 1, k -> s.cut[k]);
            case 5 -> s.turn;
            case 6 -> s.told;
            case 7 -> doubtsOfAll();
            case 8 -> past.size();
            case 9 -> tape.length();
            case 10 -> plan.lines;
            default -> -1;
        };
    }
}
