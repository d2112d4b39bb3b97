import java.util.ArrayDeque;
import java.util.ArrayList;
import java.util.Arrays;
import java.util.HashMap;
import java.util.HashSet;
import java.util.LinkedHashMap;
import java.util.List;
import java.util.Map;
import java.util.Set;
import java.util.TreeSet;

/**
 * The document told a second time, as slowly and plainly as can be: closures by matrices, searches by lists of
 * arrays, all sets gone through. RandomRuns asks it and OneCup the same things.
 */
final class SlowCup {
    static final int NOTHING = -2000000000;
    static final String SORTS = "read write turn take give send get start wait in out";

    /** One code of a hand. */
    record Code(int sort, int arg, int number, char kind, int skip, int place) { }

    record Act(int hand, int sort, int arg, int value, int place, int ahead, int bolts) {
        boolean touch() {
            return sort <= 2;
        }
    }

    record Pair(int low, int high, int cell) { }

    /** How far a run is; with equals by all that VII names. */
    static final class State {
        int[] next = new int[6];
        boolean[] started = new boolean[6];
        int[] moved = new int[6];
        int[] cells = new int[8];
        int[] holder = {-1, -1, -1, -1};
        int[] notes = new int[3];
        State from;
        int by;

        State() {
            started[0] = true;
        }

        State copy() {
            State s = new State();
            s.next = next.clone();
            s.started = started.clone();
            s.moved = moved.clone();
            s.cells = cells.clone();
            s.holder = holder.clone();
            s.notes = notes.clone();
            return s;
        }

        String key() {
            return Arrays.toString(next) + Arrays.toString(started) + Arrays.toString(moved)
                + Arrays.toString(cells) + Arrays.toString(holder) + Arrays.toString(notes);
        }
    }

    // ---- what images keep ----
    List<List<Code>> codes = emptyText();
    Set<Integer> told = new TreeSet<>();
    List<Act> log = new ArrayList<>();
    int[] endCells = new int[8];
    int endStuck;
    boolean logJoined;
    boolean[] laws = {true, true, true, true, true};
    LinkedHashMap<Pair, int[]> book = new LinkedHashMap<>();
    int runCount;
    int idle;
    int logs;

    byte[] tape = new byte[0];
    int fault;
    int faultPlace = -1;
    int statesGone;
    int refusals;
    List<Integer> shownOrder = new ArrayList<>();
    int[] couldPair;
    List<Integer> ledOrder = new ArrayList<>();
    SlowCup[] images = new SlowCup[3];
    long[][] rows = new long[4][];
    int[] widths = new int[4];

    static List<List<Code>> emptyText() {
        List<List<Code>> all = new ArrayList<>();
        for (int h = 0; h < 6; h++) {
            all.add(new ArrayList<>());
        }
        return all;
    }

    int refuse() {
        refusals++;
        return -2;
    }

    // ---- text ----

    int feed(int a, int b, int c, int d, int e) {
        if (tape.length + 20 > 900) {
            return -1;
        }
        int at = tape.length;
        tape = Arrays.copyOf(tape, at + 20);
        for (int v : new int[] {a, b, c, d, e}) {
            for (int k = 3; k >= 0; k--) {
                tape[at++] = (byte) (v >> (8 * k));
            }
        }
        return tape.length;
    }

    int end(int n) {
        if (n < 0 || n > tape.length) {
            return -1;
        }
        tape = Arrays.copyOf(tape, n);
        return n;
    }

    static final class Fault extends RuntimeException {
        final int what;
        final int place;

        Fault(int what, int place) {
            this.what = what;
            this.place = place;
        }
    }

    record Token(String text, int place) { }

    private List<Token> tokens;
    private int at;

    private List<Token> split() {
        List<Token> all = new ArrayList<>();
        String s = new String(tape, java.nio.charset.StandardCharsets.ISO_8859_1);
        int i = 0;
        while (i < s.length()) {
            int j = i;
            while (j < s.length() && s.charAt(j) >= 'a' && s.charAt(j) <= 'z') {
                j++;
            }
            if (j == i) {
                while (j < s.length() && s.charAt(j) >= '0' && s.charAt(j) <= '9') {
                    j++;
                }
            }
            if (j == i) {
                j++;
            }
            String t = s.substring(i, j);
            if (!t.equals(" ") && !t.equals("\n")) {
                all.add(new Token(t, i));
            }
            i = j;
        }
        all.add(new Token("", s.length()));
        return all;
    }

    private Token here() {
        return tokens.get(at);
    }

    private Fault cannotStand() {
        return new Fault(1, here().place);
    }

    private void expect(String t) {
        if (!here().text.equals(t)) {
            throw cannotStand();
        }
        at++;
    }

    private int letter(String of) {
        String t = here().text;
        if (t.length() != 1 || of.indexOf(t) < 0) {
            throw cannotStand();
        }
        at++;
        return of.indexOf(t);
    }

    private int number(int least, int most) {
        String t = here().text;
        if (!t.matches("[0-9]+")) {
            throw cannotStand();
        }
        java.math.BigInteger n = new java.math.BigInteger(t);
        if (n.compareTo(java.math.BigInteger.valueOf(least)) < 0 || n.compareTo(java.math.BigInteger.valueOf(most)) > 0) {
            throw new Fault(2, here().place);
        }
        at++;
        return n.intValue();
    }

    int text() {
        List<List<Code>> all = emptyText();
        Set<Integer> hands = new TreeSet<>();
        fault = 0;
        faultPlace = -1;
        tokens = split();
        at = 0;
        try {
            while (!here().text.isEmpty()) {
                expect("hand");
                int place = here().place;
                int h = number(0, 5);
                if (!hands.add(h)) {
                    throw new Fault(2, place);
                }
                expect("{");
                List<Code> own = steps(0);
                if (own.size() > 60) {
                    throw new Fault(3, here().place);
                }
                expect("}");
                all.set(h, own);
            }
        } catch (Fault f) {
            fault = f.what;
            faultPlace = f.place;
            tape = new byte[0];
            return -4;
        }
        tape = new byte[0];
        codes = all;
        told = hands;
        log = new ArrayList<>();
        endCells = new int[8];
        endStuck = 0;
        logJoined = false;
        logMade();
        return told.size();
    }

    private void logMade() {
        couldPair = null;
    }

    /** The braces within which steps may stand are as deep as told. */
    private List<Code> within(int depth) {
        if (here().text.equals("{") && depth >= 4) {
            throw new Fault(3, here().place);
        }
        expect("{");
        List<Code> inner = steps(depth + 1);
        expect("}");
        return inner;
    }

    private List<Code> steps(int depth) {
        List<Code> own = new ArrayList<>();
        while (!here().text.equals("}")) {
            int place = here().place;
            String word = here().text;
            int sort = Arrays.asList(SORTS.split(" ")).indexOf(word);
            switch (word) {
                case "read" -> {
                    at++;
                    own.add(new Code(0, letter("abcdefgh"), 0, ' ', 0, place));
                    expect(";");
                }
                case "write", "turn" -> {
                    at++;
                    int c = letter("abcdefgh");
                    own.add(new Code(sort, c, number(0, 999), ' ', 0, place));
                    expect(";");
                }
                case "move" -> {
                    at++;
                    own.add(new Code(0, letter("abcdefgh"), 0, 'm', 0, place));
                    own.add(new Code(1, letter("abcdefgh"), 0, 'm', 0, place));
                    expect(";");
                }
                case "take", "give" -> {
                    at++;
                    own.add(new Code(sort, letter("pqrs"), 0, ' ', 0, place));
                    expect(";");
                }
                case "send", "get" -> {
                    at++;
                    own.add(new Code(sort, letter("xyz"), 0, ' ', 0, place));
                    expect(";");
                }
                case "start", "wait" -> {
                    at++;
                    own.add(new Code(sort, number(0, 5), 0, ' ', 0, place));
                    expect(";");
                }
                case "if" -> {
                    at++;
                    int c = letter("abcdefgh");
                    char op = "<=".charAt(letter("<="));
                    int n = number(0, 999);
                    List<Code> inner = within(depth);
                    own.add(new Code(0, c, n, op, inner.size(), place));
                    own.addAll(inner);
                }
                case "times" -> {
                    at++;
                    int n = number(2, 9);
                    List<Code> inner = within(depth);
                    for (int k = 0; k < n; k++) {
                        own.addAll(inner);
                    }
                }
                case "gate" -> {
                    at++;
                    List<Code> inner = within(depth);
                    own.add(new Code(9, 0, 0, ' ', 0, place));
                    own.addAll(inner);
                    own.add(new Code(10, 0, 0, ' ', 0, place));
                }
                default -> throw cannotStand();
            }
        }
        return own;
    }

    int fault(int what) {
        return what == 0 ? fault : what == 1 ? faultPlace : -1;
    }

    // ---- runs ----

    boolean hasCode(State s, int h) {
        return s.next[h] < codes.get(h).size();
    }

    boolean can(State s, int h) {
        if (!s.started[h] || !hasCode(s, h)) {
            return false;
        }
        Code c = codes.get(h).get(s.next[h]);
        if (c.sort == 3) {
            return s.holder[c.arg] == -1;
        }
        if (c.sort == 6) {
            return s.notes[c.arg] > 0;
        }
        return c.sort != 8 || (s.started[c.arg] && !hasCode(s, c.arg));
    }

    /** Goes; the code if it was an act. */
    Code go(State s, int h) {
        Code c = codes.get(h).get(s.next[h]);
        s.next[h]++;
        switch (c.sort) {
            case 0 -> {
                int seen = s.cells[c.arg];
                if (c.kind == 'm') {
                    s.moved[h] = seen;
                }
                if ((c.kind == '<' && !(seen < c.number)) || (c.kind == '=' && seen != c.number)) {
                    s.next[h] += c.skip;
                }
            }
            case 1 -> {
                s.cells[c.arg] = c.kind == 'm' ? s.moved[h] : c.number;
                s.moved[h] = 0;
            }
            case 2 -> s.cells[c.arg] += c.number;
            case 3 -> s.holder[c.arg] = h;
            case 4 -> {
                if (s.holder[c.arg] != h) {
                    return null;
                }
                s.holder[c.arg] = -1;
            }
            case 5 -> s.notes[c.arg]++;
            case 6 -> s.notes[c.arg]--;
            case 7 -> {
                if (s.started[c.arg]) {
                    return null;
                }
                s.started[c.arg] = true;
            }
            default -> { }
        }
        return c;
    }

    int waitBits(State s) {
        int bits = 0;
        for (int h = 0; h < 6; h++) {
            if (s.started[h] && hasCode(s, h)) {
                bits |= 1 << h;
            }
        }
        return bits;
    }

    private void goLogged(State s, int h) {
        Code c = go(s, h);
        if (c == null) {
            return;
        }
        int ahead = 0;
        int ins = 0;
        List<Integer> open = new ArrayList<>();
        for (Act a : log) {
            if (a.hand == h) {
                ahead++;
                if (a.sort == 9) {
                    open.add(ins++);
                } else if (a.sort == 10) {
                    open.remove(open.size() - 1);
                }
            }
        }
        int bolts = 0;
        for (int b = 0; b < 4; b++) {
            bolts |= s.holder[b] == h ? 1 << b : 0;
        }
        int arg = c.sort == 9 ? ins : c.sort == 10 ? open.get(open.size() - 1) : c.arg;
        log.add(new Act(h, c.sort, arg, c.sort <= 2 ? s.cells[c.arg] : 0, c.place, ahead, bolts));
    }

    int run(int slot) {
        if (slot < 0 || slot > 3) {
            return refuse();
        }
        if (rows[slot] == null) {
            return -6;
        }
        return newRun(rows[slot]);
    }

    int runs() {
        return newRun(new long[0]);
    }

    private int newRun(long[] by) {
        log = new ArrayList<>();
        logJoined = false;
        State s = new State();
        idle = 0;
        for (long v : by) {
            if (v >= 0 && v <= 5 && can(s, (int) v)) {
                goLogged(s, (int) v);
            } else {
                idle++;
            }
        }
        boolean went = true;
        while (went) {
            went = false;
            for (int h = 0; h < 6 && !went; h++) {
                if (can(s, h)) {
                    goLogged(s, h);
                    went = true;
                }
            }
        }
        endCells = s.cells;
        endStuck = waitBits(s);
        runCount++;
        logMade();
        return log.size();
    }

    int act(int i, int what) {
        if (i < 0 || i >= log.size()) {
            return NOTHING;
        }
        Act a = log.get(i);
        int[] all = {a.hand, a.sort, a.arg, a.value, a.place, a.ahead, a.bolts};
        return what >= 0 && what < 7 ? all[what] : NOTHING;
    }

    int cell(int c) {
        return c < 0 || c > 7 ? NOTHING : endCells[c];
    }

    int stuck() {
        return endStuck;
    }

    // ---- law ----

    int law(int sort, boolean is) {
        if (sort < 0 || sort > 4) {
            return refuse();
        }
        int old = laws[sort] ? 1 : 0;
        laws[sort] = is;
        return old;
    }

    boolean isThere(int i) {
        return i >= 0 && i < log.size();
    }

    /** The send whose note get g took. */
    int sendOf(int g) {
        int nth = 0;
        for (int k = 0; k < g; k++) {
            if (log.get(k).sort == 6 && log.get(k).arg == log.get(g).arg) {
                nth++;
            }
        }
        for (int k = 0; k < g; k++) {
            if (log.get(k).sort == 5 && log.get(k).arg == log.get(g).arg && nth-- == 0) {
                return k;
            }
        }
        throw new IllegalStateException("a get without a send");
    }

    private boolean noneBetween(int i, int j, java.util.function.Predicate<Act> such) {
        for (int k = i + 1; k < j; k++) {
            if (such.test(log.get(k))) {
                return false;
            }
        }
        return true;
    }

    /** Whether i is BEFORE j by just one of the sentences of III, by these laws, marks and guards. */
    boolean straight(int i, int j, int set, int guards) {
        Act a = log.get(i);
        Act b = log.get(j);
        if (i >= j) {
            return false;
        }
        if (a.hand == b.hand) {
            return true;
        }
        boolean byBolt = laws[0] && a.sort == 4 && b.sort == 3 && a.arg == b.arg && (set >> a.arg & 1) != 0
            && noneBetween(i, j, x -> x.sort == 3 && x.arg == a.arg);
        boolean byNote = laws[1] && a.sort == 5 && b.sort == 6 && a.arg == b.arg && (set >> (4 + a.arg) & 1) != 0
            && sendOf(j) == i;
        boolean byStart = laws[2] && a.sort == 7 && a.arg == b.hand;
        boolean byWait = laws[3] && b.sort == 8 && b.arg == a.hand;
        boolean byTurn = laws[4] && a.sort == 2 && b.sort == 2 && a.arg == b.arg
            && noneBetween(i, j, x -> x.sort == 2 && x.arg == a.arg);
        boolean byGuard = a.touch() && b.touch() && a.arg == b.arg && (guards >> a.arg & 1) != 0
            && noneBetween(i, j, x -> x.touch() && x.arg == a.arg);
        return byBolt || byNote || byStart || byWait || byTurn || byGuard;
    }

    boolean[][] closure(int set, int guards) {
        int n = log.size();
        boolean[][] is = new boolean[n][n];
        for (int i = 0; i < n; i++) {
            for (int j = i + 1; j < n; j++) {
                is[i][j] = straight(i, j, set, guards);
            }
        }
        for (int k = 0; k < n; k++) {
            for (int i = 0; i < k; i++) {
                if (is[i][k]) {
                    for (int j = k + 1; j < n; j++) {
                        is[i][j] |= is[k][j];
                    }
                }
            }
        }
        return is;
    }

    int before(int i, int j) {
        if (!isThere(i) || !isThere(j)) {
            return refuse();
        }
        return closure(127, 0)[i][j] ? 1 : 0;
    }

    /** One step of a WAY. */
    boolean isStep(int i, int j) {
        Act a = log.get(i);
        Act b = log.get(j);
        if (i >= j) {
            return false;
        }
        if (a.hand == b.hand && a.ahead + 1 == b.ahead) {
            return true;
        }
        if (laws[2] && a.sort == 7 && a.arg == b.hand && b.ahead == 0) {
            return true;
        }
        boolean last = true;
        for (Act x : log) {
            last &= x.hand != a.hand || x.ahead <= a.ahead;
        }
        if (laws[3] && b.sort == 8 && b.arg == a.hand && last) {
            return true;
        }
        boolean other = (a.sort == 4 && b.sort == 3) || (a.sort == 5 && b.sort == 6) || (a.sort == 2 && b.sort == 2);
        if (!other) {
            return false;
        }
        if (a.hand == b.hand) {
            if (a.sort == 4) {
                return laws[0] && a.arg == b.arg && noneBetween(i, j, x -> x.sort == 3 && x.arg == a.arg);
            }
            if (a.sort == 5) {
                return laws[1] && a.arg == b.arg && sendOf(j) == i;
            }
            return laws[4] && a.arg == b.arg && noneBetween(i, j, x -> x.sort == 2 && x.arg == a.arg);
        }
        return straight(i, j, 127, 0);
    }

    int way(int i, int j, int k) {
        if (!isThere(i) || !isThere(j)) {
            return refuse();
        }
        // All shortest ways, told from the end back, the least of them by that.
        List<List<Integer>> open = new ArrayList<>();
        open.add(List.of(j));
        if (i >= j) {
            return -1;
        }
        boolean[] met = new boolean[log.size()];
        while (!open.isEmpty()) {
            List<List<Integer>> next = new ArrayList<>();
            for (List<Integer> w : open) {
                int head = w.get(w.size() - 1);
                if (head == i) {
                    return k >= 0 && k < w.size() ? w.get(w.size() - 1 - k) : -1;
                }
            }
            boolean[] metNow = new boolean[log.size()];
            for (List<Integer> w : open) {
                int head = w.get(w.size() - 1);
                for (int p = 0; p < head; p++) {
                    // Met at this length by a way that is less from the end back: that one is kept alone.
                    if (isStep(p, head) && !met[p] && !metNow[p]) {
                        metNow[p] = true;
                        List<Integer> longer = new ArrayList<>(w);
                        longer.add(p);
                        next.add(longer);
                    }
                }
            }
            for (int p = 0; p < met.length; p++) {
                met[p] |= metNow[p];
            }
            next.sort((u, v) -> {
                for (int x = 0; x < u.size(); x++) {
                    if (!u.get(x).equals(v.get(x))) {
                        return u.get(x) - v.get(x);
                    }
                }
                return 0;
            });
            open = next;
        }
        return -1;
    }

    boolean rivals(int i, int j) {
        Act a = log.get(i);
        Act b = log.get(j);
        return a.touch() && b.touch() && a.arg == b.arg && a.hand != b.hand && !(a.sort == 0 && b.sort == 0);
    }

    List<int[]> meetings(int set, int guards) {
        boolean[][] is = closure(set, guards);
        List<int[]> all = new ArrayList<>();
        for (int j = 0; j < log.size(); j++) {
            for (int i = 0; i < j; i++) {
                boolean turns = laws[4] && log.get(i).sort == 2 && log.get(j).sort == 2;
                if (rivals(i, j) && !turns && !is[i][j]) {
                    all.add(new int[] {i, j});
                }
            }
        }
        return all;
    }

    int meets() {
        return meetings(127, 0).size();
    }

    int meet(int k, int what) {
        List<int[]> all = meetings(127, 0);
        if (k < 0 || k >= all.size() || what < 0 || what > 4) {
            return NOTHING;
        }
        int i = all.get(k)[0];
        int j = all.get(k)[1];
        return new int[] {i, j, log.get(i).arg, log.get(i).place, log.get(j).place}[what];
    }

    int first(int c) {
        if (c < 0 || c > 7) {
            return refuse();
        }
        List<int[]> all = meetings(127, 0);
        for (int k = 0; k < all.size(); k++) {
            if (log.get(all.get(k)[0]).arg == c) {
                return k;
            }
        }
        return -1;
    }

    int small(int k) {
        if (k < 1 || k > 40) {
            return refuse();
        }
        Set<List<Integer>> due = new HashSet<>();
        for (int[] m : meetings(127, 0)) {
            due.add(List.of(m[0], m[1]));
        }
        int found = 0;
        Map<Integer, ArrayDeque<Integer>> kept = new HashMap<>();
        for (int j = 0; j < log.size(); j++) {
            if (!log.get(j).touch()) {
                continue;
            }
            ArrayDeque<Integer> of = kept.computeIfAbsent(log.get(j).arg, c -> new ArrayDeque<>());
            for (int i : of) {
                found += due.contains(List.of(i, j)) ? 1 : 0;
            }
            of.addLast(j);
            if (of.size() > k) {
                of.removeFirst();
            }
        }
        return found;
    }

    // ---- orders ----

    /** Whether the next act of hand h can come behind these acts, in this order. */
    private boolean fits(List<Integer> order, int a) {
        Act x = log.get(a);
        Set<Integer> done = new HashSet<>(order);
        if (!isStartedBehind(done, x.hand)) {
            return false;
        }
        if (x.sort == 3) {
            boolean free = true;
            for (int d : order) {
                Act y = log.get(d);
                if (y.arg == x.arg && (y.sort == 3 || y.sort == 4)) {
                    free = y.sort == 4;
                }
            }
            return free;
        }
        if (x.sort == 6 && !done.contains(sendOf(a))) {
            return false;
        }
        if (x.sort == 5 || x.sort == 6) {
            for (int k = 0; k < a; k++) {
                if (log.get(k).sort == x.sort && log.get(k).arg == x.arg && !done.contains(k)) {
                    return false;
                }
            }
        }
        if (x.sort == 8) {
            for (int k = 0; k < log.size(); k++) {
                if (log.get(k).hand == x.arg && !done.contains(k)) {
                    return false;
                }
            }
        }
        if (x.sort == 0 || x.sort == 2) {
            List<Integer> logged = new ArrayList<>();
            for (int k = 0; k < a; k++) {
                logged.add(k);
            }
            return lastWrite(order, x.arg) == lastWrite(logged, x.arg);
        }
        return true;
    }

    private int lastWrite(List<Integer> order, int cell) {
        int last = -1;
        for (int d : order) {
            if (log.get(d).arg == cell && (log.get(d).sort == 1 || log.get(d).sort == 2)) {
                last = d;
            }
        }
        return last;
    }

    private boolean isStartedBehind(Set<Integer> done, int h) {
        if (h == 0) {
            return true;
        }
        for (int d : done) {
            if (log.get(d).sort == 7 && log.get(d).arg == h) {
                return true;
            }
        }
        return false;
    }

    private int nextOf(List<Integer> order, int h) {
        int count = 0;
        for (int d : order) {
            count += log.get(d).hand == h ? 1 : 0;
        }
        for (int k = 0; k < log.size(); k++) {
            if (log.get(k).hand == h && log.get(k).ahead == count) {
                return k;
            }
        }
        return -1;
    }

    private String orderKey(List<Integer> order) {
        StringBuilder key = new StringBuilder();
        for (int h = 0; h < 6; h++) {
            key.append(nextOf(order, h)).append(' ');
        }
        for (int c = 0; c < 8; c++) {
            key.append(lastWrite(order, c)).append(' ');
        }
        return key.toString();
    }

    private boolean isGoal(List<Integer> order, int i, int j) {
        Set<Integer> done = new HashSet<>(order);
        return nextOf(order, log.get(i).hand) == i && nextOf(order, log.get(j).hand) == j
            && isStartedBehind(done, log.get(i).hand) && isStartedBehind(done, log.get(j).hand);
    }

    int could(int i, int j) {
        if (!isThere(i) || !isThere(j) || log.get(i).hand == log.get(j).hand) {
            return refuse();
        }
        Set<String> met = new HashSet<>();
        List<List<Integer>> queue = new ArrayList<>();
        queue.add(new ArrayList<>());
        met.add(orderKey(queue.get(0)));
        statesGone = 1;
        if (isGoal(queue.get(0), i, j)) {
            return tellCould(queue.get(0), i, j);
        }
        for (int q = 0; q < queue.size(); q++) {
            for (int h = 0; h < 6; h++) {
                int a = nextOf(queue.get(q), h);
                if (a < 0 || !fits(queue.get(q), a)) {
                    continue;
                }
                List<Integer> order = new ArrayList<>(queue.get(q));
                order.add(a);
                if (met.add(orderKey(order))) {
                    if (queue.size() == 3000) {
                        return -3;
                    }
                    queue.add(order);
                    statesGone = queue.size();
                    if (isGoal(order, i, j)) {
                        return tellCould(order, i, j);
                    }
                }
            }
        }
        return 0;
    }

    private int tellCould(List<Integer> order, int i, int j) {
        shownOrder = new ArrayList<>();
        for (int d : order) {
            shownOrder.add(log.get(d).hand);
        }
        couldPair = new int[] {i, j};
        return 1;
    }

    int shown(int k) {
        return k >= 0 && k < shownOrder.size() ? shownOrder.get(k) : -1;
    }

    private void tillAct(State s, int h) {
        while (can(s, h)) {
            if (go(s, h) != null) {
                return;
            }
        }
    }

    private State replay(int one, int two) {
        State s = new State();
        for (int h : shownOrder) {
            tillAct(s, h);
        }
        tillAct(s, one);
        tillAct(s, two);
        boolean went = true;
        while (went) {
            went = false;
            for (int h = 0; h < 6 && !went; h++) {
                if (can(s, h)) {
                    go(s, h);
                    went = true;
                }
            }
        }
        return s;
    }

    int harm() {
        if (couldPair == null) {
            return -1;
        }
        int one = log.get(couldPair[0]).hand;
        int two = log.get(couldPair[1]).hand;
        State s = replay(one, two);
        State t = replay(two, one);
        int bits = waitBits(s) == waitBits(t) ? 0 : 256;
        for (int c = 0; c < 8; c++) {
            bits |= s.cells[c] == t.cells[c] ? 0 : 1 << c;
        }
        return bits;
    }

    // ---- habit ----

    int always(int c) {
        if (c < 0 || c > 7) {
            return refuse();
        }
        int bits = 15;
        for (Act a : log) {
            bits &= a.touch() && a.arg == c ? a.bolts : 15;
        }
        return bits;
    }

    int habit() {
        int pairs = 0;
        for (int i = 0; i < log.size(); i++) {
            for (int j = i + 1; j < log.size(); j++) {
                pairs += rivals(i, j) && (log.get(i).bolts & log.get(j).bolts) == 0 ? 1 : 0;
            }
        }
        return pairs;
    }

    int ring() {
        boolean[][] on = new boolean[4][4];
        for (Act a : log) {
            for (int p = 0; p < 4; p++) {
                if (a.sort == 3 && p != a.arg && (a.bolts >> p & 1) != 0) {
                    on[p][a.arg] = true;
                }
            }
        }
        for (int k = 0; k < 4; k++) {
            for (int i = 0; i < 4; i++) {
                for (int j = 0; j < 4; j++) {
                    on[i][j] |= on[i][k] && on[k][j];
                }
            }
        }
        int bits = 0;
        for (int p = 0; p < 4; p++) {
            bits |= on[p][p] ? 1 << p : 0;
        }
        return bits;
    }

    // ---- all runs ----

    /** All states, oldest first; null: spent. */
    private List<State> allStates() {
        Set<String> met = new HashSet<>();
        List<State> queue = new ArrayList<>();
        queue.add(new State());
        met.add(queue.get(0).key());
        for (int q = 0; q < queue.size(); q++) {
            for (int h = 0; h < 6; h++) {
                if (can(queue.get(q), h)) {
                    State s = queue.get(q).copy();
                    go(s, h);
                    s.from = queue.get(q);
                    s.by = h;
                    if (met.add(s.key())) {
                        if (queue.size() == 3000) {
                            statesGone = 3000;
                            return null;
                        }
                        queue.add(s);
                    }
                }
            }
        }
        statesGone = queue.size();
        return queue;
    }

    private boolean isEnd(State s) {
        for (int h = 0; h < 6; h++) {
            if (can(s, h)) {
                return false;
            }
        }
        return true;
    }

    int ends() {
        List<State> all = allStates();
        if (all == null) {
            return -3;
        }
        Set<String> unlike = new HashSet<>();
        for (State s : all) {
            if (isEnd(s)) {
                unlike.add(Arrays.toString(s.cells) + waitBits(s));
            }
        }
        return unlike.size();
    }

    int waits() {
        List<State> all = allStates();
        if (all == null) {
            return -3;
        }
        for (State s : all) {
            if (isEnd(s) && waitBits(s) != 0) {
                ledOrder = new ArrayList<>();
                for (State b = s; b.from != null; b = b.from) {
                    ledOrder.add(0, b.by);
                }
                return waitBits(s);
            }
        }
        return 0;
    }

    int led(int k) {
        return k >= 0 && k < ledOrder.size() ? ledOrder.get(k) : -1;
    }

    // ---- sets ----

    int may(int set) {
        if (set < 0 || set > 127) {
            return refuse();
        }
        return meetings(set, 0).size();
    }

    int least() {
        int due = meets();
        int best = 127;
        for (int set = 127; set >= 0; set--) {
            if (Integer.bitCount(set) <= Integer.bitCount(best) && meetings(set, 0).size() == due) {
                best = set;
            }
        }
        return best;
    }

    int mend() {
        int best = 255;
        for (int set = 255; set >= 0; set--) {
            if (Integer.bitCount(set) <= Integer.bitCount(best) && meetings(127, set).isEmpty()) {
                best = set;
            }
        }
        return best;
    }

    // ---- gates ----

    int gates() {
        int n = 0;
        for (Act a : log) {
            n += a.sort == 9 ? 1 : 0;
        }
        return n;
    }

    int blink(int g) {
        int n = log.size();
        int[] node = new int[n];
        int in = -1;
        int nth = 0;
        for (int j = 0; j < n; j++) {
            Act a = log.get(j);
            if (a.sort == 9 && nth++ == g) {
                in = j;
            }
            // The gates that are open ahead of it, the outermost first.
            List<Integer> open = new ArrayList<>();
            for (int i = 0; i < j; i++) {
                if (log.get(i).hand == a.hand && log.get(i).sort == 9) {
                    open.add(i);
                } else if (log.get(i).hand == a.hand && log.get(i).sort == 10) {
                    open.remove(open.size() - 1);
                }
            }
            node[j] = open.isEmpty() ? j : open.get(0);
        }
        if (in < 0) {
            return -1;
        }
        boolean[][] edge = new boolean[n][n];
        for (int i = 0; i < n; i++) {
            for (int j = i + 1; j < n; j++) {
                Act a = log.get(i);
                Act b = log.get(j);
                boolean is = a.hand == b.hand;
                is |= a.touch() && b.touch() && a.arg == b.arg && !(a.sort == 0 && b.sort == 0);
                is |= (a.sort == 3 || a.sort == 4) && (b.sort == 3 || b.sort == 4) && a.arg == b.arg;
                is |= a.sort == 5 && b.sort == 6 && a.arg == b.arg && sendOf(j) == i;
                is |= a.sort == 7 && a.arg == b.hand;
                is |= b.sort == 8 && b.arg == a.hand;
                if (is && node[i] != node[j]) {
                    edge[node[i]][node[j]] = true;
                }
            }
        }
        for (int k = 0; k < n; k++) {
            for (int i = 0; i < n; i++) {
                for (int j = 0; j < n; j++) {
                    edge[i][j] |= edge[i][k] && edge[k][j];
                }
            }
        }
        return edge[node[in]][node[in]] ? 0 : 1;
    }

    // ---- book ----

    int join() {
        if (logJoined) {
            return -1;
        }
        Set<Pair> here = new java.util.LinkedHashSet<>();
        for (int[] m : meetings(127, 0)) {
            int p = log.get(m[0]).place;
            int q = log.get(m[1]).place;
            here.add(new Pair(Math.min(p, q), Math.max(p, q), log.get(m[0]).arg));
        }
        Set<Pair> both = new HashSet<>(here);
        both.addAll(book.keySet());
        if (both.size() > 100) {
            return -3;
        }
        int fresh = both.size() - book.size();
        for (Pair p : here) {
            int[] old = book.get(p);
            book.put(p, old == null ? new int[] {1, logs, logs} : new int[] {old[0] + 1, old[1], logs});
        }
        logs++;
        logJoined = true;
        return fresh;
    }

    int joined(int k, int what) {
        if (k < 0 || k >= book.size() || what < 0 || what > 5) {
            return NOTHING;
        }
        Pair p = new ArrayList<>(book.keySet()).get(k);
        int[] v = book.get(p);
        return new int[] {p.low, p.high, p.cell, v[0], v[1], v[2]}[what];
    }

    int status(int what) {
        int lawBits = 0;
        for (int k = 0; k < 5; k++) {
            lawBits |= laws[k] ? 1 << k : 0;
        }
        int there = 0;
        for (long[] r : rows) {
            there += r == null ? 0 : 1;
        }
        int[] all = {told.size(), log.size(), runCount, idle, book.size(), tape.length, lawBits, statesGone, there, logs, refusals};
        return what >= 0 && what < all.length ? all[what] : -1;
    }

    // ---- images ----

    private static void copy(SlowCup from, SlowCup to) {
        to.codes = from.codes;
        to.told = from.told;
        to.log = from.log;
        to.endCells = from.endCells;
        to.endStuck = from.endStuck;
        to.logJoined = from.logJoined;
        to.laws = from.laws.clone();
        to.book = new LinkedHashMap<>(from.book);
        to.runCount = from.runCount;
        to.idle = from.idle;
        to.logs = from.logs;
    }

    int keep(int k) {
        if (k < 0 || k > 2) {
            return refuse();
        }
        images[k] = new SlowCup();
        copy(this, images[k]);
        return 0;
    }

    int back(int k) {
        if (k < 0 || k > 2) {
            return refuse();
        }
        if (images[k] == null) {
            return -6;
        }
        copy(images[k], this);
        couldPair = null;
        return 0;
    }

    // ---- slots ----

    int row(int slot, int width, int n) {
        if (slot < 0 || slot > 3 || width < 0 || width > 3 || n > 60) {
            return refuse();
        }
        if (n < 0) {
            return -3;
        }
        rows[slot] = new long[n];
        widths[slot] = width;
        return 0;
    }

    int write(int slot, int i, long v) {
        if (slot < 0 || slot > 3) {
            return refuse();
        }
        if (rows[slot] == null) {
            return -6;
        }
        if (i < 0 || i >= rows[slot].length) {
            return -7;
        }
        int unused = 64 - (8 << widths[slot]);
        rows[slot][i] = v << unused >>> unused;
        return 0;
    }

    int paste(int slot, int i, int to, int k, int n) {
        if (slot < 0 || slot > 3 || to < 0 || to > 3) {
            return refuse();
        }
        if (rows[slot] == null || rows[to] == null) {
            return -6;
        }
        if (widths[slot] != widths[to]) {
            return -8;
        }
        if (i < 0 || k < 0 || n < 0 || (long) i + n > rows[slot].length || (long) k + n > rows[to].length) {
            return -7;
        }
        long[] was = rows[slot].clone();
        for (int m = 0; m < n; m++) {
            rows[to][k + m] = was[i + m];
        }
        return 0;
    }
}
