import java.util.ArrayDeque;
import java.util.ArrayList;
import java.util.Arrays;
import java.util.HashSet;
import java.util.List;
import java.util.Set;

/**
 * The document read anew, as slowly and plainly as can be: what AlikeTown is compared with in random runs.
 * It tries everything where AlikeTown searches, and is of no use for large towns.
 */
public final class PlainTown {
    static final int LOW = -1000000000;
    static final int BEYOND = 1, NONE = 2, STATE = 3, FULL = 4, KIND = 5;

    // ---- HOUSES as a tree of classes

    static class House {
        int m;
        int[] marks;
        House(int m, int[] marks) { this.m = m; this.marks = marks; }
        int kind() { return 0; }
        boolean bound() { return true; }
        int cost(PlainTown t, int mark) { return t.costText(mark, m); }
        int stands(Say s, int x) { s.note(10); return x + s.lot; }
        int paints(Say s, int x) { s.note(11); return stands(s, x) * 2; }
        int turns(Say s, int x) { s.note(12); return x - m; }
        int tells(Say s, int x) { s.note(13); return paints(s, x) ^ turns(s, x); }
    }
    static class Free extends House {
        Free(int m, int[] marks) { super(m, marks); }
        @Override int kind() { return 1; }
        @Override int cost(PlainTown t, int mark) { return super.cost(t, mark) / 2; }
        @Override int paints(Say s, int x) { s.note(20); return super.paints(s, x) - turns(s, 1); }
    }
    static class Held extends House {
        Held(int m, int[] marks) { super(m, marks); }
        @Override int kind() { return 2; }
        @Override int cost(PlainTown t, int mark) { return super.cost(t, mark) * 2; }
        @Override int stands(Say s, int x) { s.note(30); return super.stands(s, x) * 3; }
    }
    static class New extends House {
        New(int m, int[] marks) { super(m, marks); }
        @Override int kind() { return 3; }
        @Override int cost(PlainTown t, int mark) { return m; }
        @Override int turns(Say s, int x) { s.note(40); return -super.turns(s, x); }
    }
    static class Linked extends Free {
        Linked(int m, int[] marks) { super(m, marks); }
        @Override int kind() { return 4; }
        @Override int cost(PlainTown t, int mark) { return super.cost(t, mark) + 5; }
        @Override int paints(Say s, int x) { s.note(50); return super.paints(s, x + 1); }
    }
    static class Church extends Held {
        Church(int m, int[] marks) { super(m, marks); }
        @Override int kind() { return 5; }
        @Override boolean bound() { return false; }
        @Override int cost(PlainTown t, int mark) { return -1; }
        @Override int tells(Say s, int x) { s.note(60); return super.tells(s, x) - stands(s, 2); }
    }
    static class Bought extends New {
        Bought(int m, int[] marks) { super(m, marks); }
        @Override int kind() { return 6; }
        @Override int cost(PlainTown t, int mark) { return Math.max(0, super.cost(t, mark) - 3); }
        @Override int turns(Say s, int x) { s.note(70); return super.turns(s, x) ^ s.lot; }
        @Override int tells(Say s, int x) { s.note(71); return paints(s, x) - super.tells(s, x); }
    }
    static final class Say {
        int lot;
        List<Integer> bodies = new ArrayList<>();
        void note(int body) { if (bodies.size() < 40) bodies.add(body); }
    }
    static House make(int kind, int m, int[] marks) {
        switch (kind) {
            case 1: return new Free(m, marks);
            case 2: return new Held(m, marks);
            case 3: return new New(m, marks);
            case 4: return new Linked(m, marks);
            case 5: return new Church(m, marks);
            case 6: return new Bought(m, marks);
            default: return new House(m, marks);
        }
    }
    static boolean isA(House h, int kind) {
        switch (kind) {
            case 0: return true;
            case 1: return h instanceof Free;
            case 2: return h instanceof Held;
            case 3: return h instanceof New;
            case 4: return h instanceof Linked;
            case 5: return h instanceof Church;
            default: return h instanceof Bought;
        }
    }

    // ---- what an IMAGE keeps

    static final class All {
        int rows = 1, columns = 4, shape, least = 1, most = 1, year, spent, z = 1;
        House[] lots = new House[4];
        List<Integer> tape = new ArrayList<>();
        List<Integer> waiting = new ArrayList<>();
        String[] texts = new String[2];
        All copy() {
            All a = new All();
            a.rows = rows; a.columns = columns; a.shape = shape; a.least = least; a.most = most;
            a.year = year; a.spent = spent; a.z = z;
            a.lots = new House[lots.length];
            for (int i = 0; i < lots.length; i++) {
                if (lots[i] != null) a.lots[i] = make(lots[i].kind(), lots[i].m, lots[i].marks.clone());
            }
            a.tape = new ArrayList<>(tape);
            a.waiting = new ArrayList<>(waiting);
            a.texts = texts.clone();
            return a;
        }
    }
    All s = new All();
    All kept;
    int images;
    int[] refused = new int[6];
    long[][] sheets = new long[4][];
    int[] bits = new int[4];
    List<Integer> trace = new ArrayList<>();

    int no(int k) { refused[k]++; return LOW - k; }
    boolean lotOk(int lot) { return lot >= 0 && lot < s.lots.length; }
    static boolean ms(int mark, int sort) { return mark >= 0 && mark <= 3 && sort >= 0 && sort <= 2; }
    static int[] marksOf(int house) { return new int[] {house / 27, house / 9 % 3, house / 3 % 3, house % 3}; }
    static int alikeOf(int[] a, int[] b) {
        int n = 0;
        for (int i = 0; i < 4; i++) if (a[i] != 3 && a[i] == b[i]) n++;
        return n;
    }
    boolean goes(int[] a, int[] b) { int n = alikeOf(a, b); return n >= s.least && n <= s.most; }
    boolean sideBySide(int a, int b) {
        int ra = a / s.columns, ca = a % s.columns, rb = b / s.columns, cb = b % s.columns;
        if (ra == rb) {
            int d = Math.abs(ca - cb);
            return d == 1 || (s.shape >= 1 && s.columns >= 3 && d == s.columns - 1);
        }
        if (ca == cb) {
            int d = Math.abs(ra - rb);
            return d == 1 || (s.shape == 2 && s.rows >= 3 && d == s.rows - 1);
        }
        return false;
    }
    boolean lawful(int a, int b) {
        House x = s.lots[a], y = s.lots[b];
        return x == null || y == null || !x.bound() || !y.bound() || goes(x.marks, y.marks);
    }
    boolean lotLawful(int lot) {
        for (int i = 0; i < s.lots.length; i++) if (i != lot && sideBySide(lot, i) && !lawful(lot, i)) return false;
        return true;
    }
    List<Integer> wrongs() {
        List<Integer> w = new ArrayList<>();
        for (int a = 0; a < s.lots.length; a++)
            for (int b = a + 1; b < s.lots.length; b++)
                if (sideBySide(a, b) && !lawful(a, b)) w.add(64 * a + b);
        return w;
    }
    boolean allLawful() { return wrongs().isEmpty(); }
    List<Integer> mays(int lot) {
        House was = s.lots[lot];
        List<Integer> l = new ArrayList<>();
        for (int h = 0; h < 81; h++) {
            s.lots[lot] = new House(0, marksOf(h));
            if (lotLawful(lot)) l.add(h);
        }
        s.lots[lot] = was;
        return l;
    }
    int houses() { int n = 0; for (House h : s.lots) if (h != null) n++; return n; }
    int draw() { s.z = s.z * 1103515245 + 12345; return s.z >>> 8; }
    int worthOf(int[] k) { return worthText(k[0], k[1], k[2], k[3]); }
    int costText(int k, int m) {
        String text = s.texts[0] == null ? "10+m" : s.texts[0];
        return Math.max(0, Math.min(99, eval(text, "km", k, m)));
    }
    int worthText(int... v) {
        if (s.texts[1] == null) return 0;
        return Math.max(-99, Math.min(99, eval(s.texts[1], "crdv", v)));
    }

    // ---- TEXTS: an automaton for the FAULT, two stacks for the value

    static int fault(String t, String names) {
        StringBuilder open = new StringBuilder();
        Set<Integer> compared = new HashSet<>();
        boolean operand = true;
        int digits = 0;
        for (int i = 0; i < t.length(); i++) {
            char c = t.charAt(i);
            boolean digit = c >= '0' && c <= '9';
            if (operand) {
                if (c == '!' || c == '(') {
                    if (open.length() == 5) return i;
                    open.append(c);
                    if (c == '(') compared.remove(open.length());
                } else if (digit || names.indexOf(c) >= 0) {
                    operand = false;
                    digits = digit ? 1 : 9;
                    close(open);
                } else {
                    return i;
                }
            } else if (digit && digits < 4) {
                digits++;
            } else if (c == ')') {
                if (open.length() == 0) return i;
                open.setLength(open.length() - 1);
                close(open);
                digits = 9;
            } else if ("|&<=>+-*/%".indexOf(c) >= 0) {
                if ("|&".indexOf(c) >= 0) compared.remove(open.length());
                if ("<=>".indexOf(c) >= 0 && !compared.add(open.length())) return i;
                operand = true;
            } else {
                return i;
            }
        }
        return operand || open.length() > 0 ? t.length() : -1;
    }
    static void close(StringBuilder open) {
        while (open.length() > 0 && open.charAt(open.length() - 1) == '!') open.setLength(open.length() - 1);
    }
    static int rank(char c) {
        return c == '|' ? 1 : c == '&' ? 2 : "<=>".indexOf(c) >= 0 ? 3 : "+-".indexOf(c) >= 0 ? 4 : c == '!' ? 6 : c == '(' ? 0 : 5;
    }
    static int eval(String t, String names, int... v) {
        ArrayDeque<Integer> values = new ArrayDeque<>();
        ArrayDeque<Character> signs = new ArrayDeque<>();
        for (int i = 0; i < t.length(); i++) {
            char c = t.charAt(i);
            if (c >= '0' && c <= '9') {
                int n = 0;
                while (i < t.length() && t.charAt(i) >= '0' && t.charAt(i) <= '9') n = n * 10 + t.charAt(i++) - '0';
                i--;
                values.push(n);
            } else if (names.indexOf(c) >= 0) {
                values.push(v[names.indexOf(c)]);
            } else if (c == '!' || c == '(') {
                signs.push(c);
            } else if (c == ')') {
                while (signs.peek() != '(') work(values, signs.pop());
                signs.pop();
            } else {
                while (!signs.isEmpty() && rank(signs.peek()) >= rank(c)) work(values, signs.pop());
                signs.push(c);
            }
        }
        while (!signs.isEmpty()) work(values, signs.pop());
        return values.pop();
    }
    static void work(ArrayDeque<Integer> values, char c) {
        int b = values.pop();
        if (c == '!') { values.push(b == 0 ? 1 : 0); return; }
        int a = values.pop();
        boolean x = a != 0, y = b != 0;
        values.push(c == '|' ? (x | y ? 1 : 0) : c == '&' ? (x & y ? 1 : 0) : c == '<' ? (a < b ? 1 : 0)
            : c == '=' ? (a == b ? 1 : 0) : c == '>' ? (a > b ? 1 : 0) : c == '+' ? a + b : c == '-' ? a - b
            : c == '*' ? a * b : b == 0 ? 0 : c == '/' ? a / b : a % b);
    }

    // ---- the acts

    public long town(int r, int c, int sh) {
        if (r < 1 || r > 8 || c < 1 || c > 8 || sh < 0 || sh > 2) return no(BEYOND);
        s.rows = r; s.columns = c; s.shape = sh;
        s.lots = new House[r * c];
        return r * c;
    }
    public long rule(int what, int v) {
        if (what < 0 || what > 1 || v < 0 || v > 4) return no(BEYOND);
        if (what == 0) {
            if (v > s.most) return no(STATE);
            int was = s.least; s.least = v; return was;
        }
        if (s.least > v) return no(STATE);
        int was = s.most; s.most = v; return was;
    }
    int whyNot(int lot, int km, long house) {
        if (!lotOk(lot) || km < 0 || km > 69 || house < 0 || house > 80) return BEYOND;
        if (s.lots[lot] != null) return STATE;
        s.lots[lot] = make(km / 10, km % 10, marksOf((int) house));
        boolean ok = lotLawful(lot);
        if (!ok) s.lots[lot] = null;
        return ok ? 0 : KIND;
    }
    public long build(int lot, int km, int house) {
        int why = whyNot(lot, km, house);
        return why == 0 ? houses() : no(why);
    }
    public long pull(int lot) {
        if (!lotOk(lot)) return no(BEYOND);
        if (s.lots[lot] == null) return no(NONE);
        int[] k = s.lots[lot].marks;
        s.lots[lot] = null;
        int n = 0;
        for (int i = 0; i < 4; i++) n = 3 * n + (k[i] == 3 ? 0 : k[i]);
        return n;
    }
    public long ofLot(int lot, int what) {
        if (!lotOk(lot) || what < 0 || what > 11) return no(BEYOND);
        House h = s.lots[lot];
        if (what == 0) return h == null ? 0 : 1;
        if (h == null) return no(NONE);
        if (what == 1) return h.kind();
        if (what == 2) return h.m;
        if (what <= 6) return h.marks[what - 3];
        if (what <= 10) return h.cost(this, what - 7);
        return worthOf(h.marks);
    }
    public long become(int lot, int km) {
        if (!lotOk(lot) || km < 0 || km > 69) return no(BEYOND);
        if (s.lots[lot] == null) return no(NONE);
        int was = s.lots[lot].kind();
        s.lots[lot] = make(km / 10, km % 10, s.lots[lot].marks);
        return was;
    }
    public long as(int lot, int kind) {
        if (!lotOk(lot) || kind < 0 || kind > 6) return no(BEYOND);
        if (s.lots[lot] == null) return no(NONE);
        return isA(s.lots[lot], kind) ? s.lots[lot].m : no(KIND);
    }
    public long paint(int lot, int mark, int sort) {
        if (!lotOk(lot) || !ms(mark, sort)) return no(BEYOND);
        House h = s.lots[lot];
        if (h == null) return no(NONE);
        if (h.marks[mark] == sort || h.kind() == 5) return no(STATE);
        int was = h.marks[mark];
        h.marks[mark] = sort;
        if (!lotLawful(lot)) { h.marks[mark] = was; return no(KIND); }
        s.spent = Math.min(999999, s.spent + h.cost(this, mark));
        return s.spent;
    }
    public long alike(int lot, int other) {
        if (!lotOk(lot) || !lotOk(other)) return no(BEYOND);
        if (s.lots[lot] == null || s.lots[other] == null) return no(NONE);
        return alikeOf(s.lots[lot].marks, s.lots[other].marks);
    }
    public long may(int lot, int what) {
        if (!lotOk(lot) || what < -1) return no(BEYOND);
        List<Integer> l = mays(lot);
        if (what == -1) return l.size();
        return what < l.size() ? l.get(what) : no(NONE);
    }
    public long wrong(int what) {
        if (what < -1) return no(BEYOND);
        List<Integer> l = wrongs();
        if (what == -1) return l.size();
        return what < l.size() ? l.get(what) : no(NONE);
    }
    public long feed(long word, int n) {
        if (n < 1 || n > 8) return no(BEYOND);
        if (s.tape.size() + n > 50) return no(FULL);
        for (int i = 0; i < n; i++) { s.tape.add((int) (word & 255)); word >>= 8; }
        return s.tape.size();
    }
    public long text(int use) {
        if (use < 0 || use > 1) return no(BEYOND);
        StringBuilder b = new StringBuilder();
        for (int x : s.tape) b.append((char) x);
        s.tape.clear();
        int f = fault(b.toString(), use == 0 ? "km" : "crdv");
        if (f >= 0) return -10 - f;
        s.texts[use] = b.toString();
        return 1;
    }
    public long law(int use, int a, int b, int c, int d) {
        if (use < 0 || use > 1) return no(BEYOND);
        return use == 0 ? costText(a, b) : worthText(a, b, c, d);
    }

    /** The least COST of just so many CHANGES from the MARK numbered i (4 a LOT) on, or -1. */
    int cheapest(int i, int left, int locked) {
        if (left == 0) return allLawful() ? 0 : -1;
        int best = -1;
        for (int j = i; j < 4 * s.lots.length; j++) {
            House h = s.lots[j / 4];
            if (h == null || h.kind() == 5 || j == locked) continue;
            int was = h.marks[j % 4];
            for (int sort = 0; sort < 3; sort++) {
                if (sort == was) continue;
                h.marks[j % 4] = sort;
                int c = cheapest(j + 1, left - 1, locked);
                if (c >= 0 && (best < 0 || c + h.cost(this, j % 4) < best)) best = c + h.cost(this, j % 4);
            }
            h.marks[j % 4] = was;
        }
        return best;
    }
    public long wish(int lot, int mark, int sort, int what) {
        if (!lotOk(lot) || !ms(mark, sort) || what < 0 || what > 1) return no(BEYOND);
        House h = s.lots[lot];
        if (h == null) return no(NONE);
        int was = h.marks[mark];
        int own = was == sort ? 0 : 1;
        if (own == 1 && h.kind() == 5) return no(NONE);
        h.marks[mark] = sort;
        int found = -1, cost = 0;
        for (int n = own; n <= 4 && found < 0; n++) {
            int c = cheapest(0, n - own, 4 * lot + mark);
            if (c >= 0) { found = n; cost = c + (own == 1 ? h.cost(this, mark) : 0); }
        }
        h.marks[mark] = was;
        if (found < 0) return no(NONE);
        return what == 0 ? found : cost;
    }
    boolean reach(int lot, int mark, int sort, int left) {
        if (s.lots[lot].marks[mark] == sort) return true;
        if (left == 0) return false;
        for (int i = 0; i < s.lots.length; i++) {
            House h = s.lots[i];
            if (h == null || h.kind() == 5 || (i != lot && !sideBySide(i, lot))) continue;
            for (int k = 0; k < 4; k++) {
                int was = h.marks[k];
                for (int v = 0; v < 3; v++) {
                    if (v == was) continue;
                    h.marks[k] = v;
                    boolean ok = allLawful() && reach(lot, mark, sort, left - 1);
                    h.marks[k] = was;
                    if (ok) return true;
                }
            }
        }
        return false;
    }
    public long steps(int lot, int mark, int sort) {
        if (!lotOk(lot) || !ms(mark, sort)) return no(BEYOND);
        if (s.lots[lot] == null) return no(NONE);
        if (!allLawful()) return no(STATE);
        for (int n = 0; n <= 3; n++) if (reach(lot, mark, sort, n)) return n;
        return no(NONE);
    }
    public long right() {
        for (int n = 0; n <= 4; n++) if (cheapest(0, n, -1) >= 0) return n;
        return no(NONE);
    }

    boolean[][] table() {
        boolean[][] g = new boolean[81][81];
        for (int a = 0; a < 81; a++) for (int b = 0; b < 81; b++) g[a][b] = goes(marksOf(a), marksOf(b));
        return g;
    }
    long walks(int n, boolean ring) {
        boolean[][] g = table();
        long all = 0;
        for (int first = 0; first < 81; first++) {
            long[] w = new long[81];
            w[first] = 1;
            for (int i = 1; i < n; i++) {
                long[] x = new long[81];
                for (int a = 0; a < 81; a++) for (int b = 0; b < 81; b++) if (g[a][b]) x[b] += w[a];
                w = x;
            }
            for (int a = 0; a < 81; a++) if (!ring || g[a][first]) all += w[a];
        }
        return all;
    }
    public long rows(int n) { return n < 1 || n > 9 ? no(BEYOND) : walks(n, false); }
    public long rings(int n) { return n < 3 || n > 9 ? no(BEYOND) : walks(n, true); }
    public long before() {
        if (s.rows != 1 || s.lots.length > 9) return no(STATE);
        int n = s.lots.length;
        boolean ring = s.shape >= 1 && n >= 3;
        List<List<House>> may = new ArrayList<>();
        for (House h : s.lots) {
            List<House> l = new ArrayList<>();
            if (h != null) l.add(h);
            else for (int i = 0; i < 81; i++) l.add(new House(0, marksOf(i)));
            may.add(l);
        }
        long all = 0;
        for (House first : may.get(0)) {
            List<House> at = List.of(first);
            long[] w = {1};
            for (int i = 1; i < n; i++) {
                List<House> to = may.get(i);
                long[] x = new long[to.size()];
                for (int b = 0; b < x.length; b++)
                    for (int a = 0; a < w.length; a++) if (pass(at.get(a), to.get(b))) x[b] += w[a];
                at = to;
                w = x;
            }
            for (int a = 0; a < w.length; a++) if (!ring || pass(at.get(a), first)) all += w[a];
        }
        return all;
    }
    boolean pass(House a, House b) { return !a.bound() || !b.bound() || goes(a.marks, b.marks); }
    public long drawn(int sheet) {
        if (sheet < 0 || sheet > 3) return no(BEYOND);
        if (sheets[sheet] == null) return no(NONE);
        int last = -1;
        for (int i = 0; i < sheets[sheet].length; i++) {
            List<Integer> l = new ArrayList<>();
            for (int h = 0; h < 81; h++) if (last < 0 || goes(marksOf(last), marksOf(h))) l.add(h);
            last = l.get(draw() % l.size());
            sheets[sheet][i] = last;
        }
        return sheets[sheet].length;
    }
    public long storm(int mark, int sort) {
        if (!ms(mark, sort)) return no(BEYOND);
        int n = 0;
        for (House h : s.lots) if (h != null && h.kind() != 5 && h.marks[mark] == sort) { h.marks[mark] = 3; n++; }
        return n;
    }
    int harmOf(int mark, int sort) {
        All was = s;
        s = s.copy();
        storm(mark, sort);
        int n = wrongs().size();
        s = was;
        return n;
    }
    public long harm(int mark, int sort) { return ms(mark, sort) ? harmOf(mark, sort) : no(BEYOND); }
    public long worst() {
        int best = 0;
        for (int i = 1; i < 12; i++) if (harmOf(i / 3, i % 3) > harmOf(best / 3, best % 3)) best = i;
        return best;
    }
    int tries;
    /** 1: filled, 0: there is no way, -1: too many tries. */
    int fillFrom(int lot) {
        if (lot == s.lots.length) return 1;
        if (s.lots[lot] != null) return fillFrom(lot + 1);
        for (int h = 0; h < 81; h++) {
            if (++tries > 20000) return -1;
            s.lots[lot] = new House(0, marksOf(h));
            int r = lotLawful(lot) ? fillFrom(lot + 1) : 0;
            if (r == 1) return 1;
            s.lots[lot] = null;
            if (r == -1) return -1;
        }
        return 0;
    }
    public long fill() {
        int had = houses();
        tries = 0;
        int r = fillFrom(0);
        return r == 1 ? houses() - had : no(r == 0 ? NONE : FULL);
    }
    public long worth() {
        long sum = 0;
        for (House h : s.lots) if (h != null) sum += worthOf(h.marks);
        return sum;
    }
    public long pays(int what) {
        if (what < 0 || what > 1) return no(BEYOND);
        int best = -1, most = Integer.MIN_VALUE;
        for (int i = 0; i < 12 * s.lots.length; i++) {
            House h = s.lots[i / 12];
            int mark = i % 12 / 3, sort = i % 3;
            if (h == null || h.kind() == 5 || h.marks[mark] == sort) continue;
            int was = h.marks[mark];
            int gain = -worthOf(h.marks) - h.cost(this, mark);
            h.marks[mark] = sort;
            gain += worthOf(h.marks);
            if (allLawful() && gain > most) { most = gain; best = i; }
            h.marks[mark] = was;
        }
        if (best < 0) return no(NONE);
        return what == 0 ? best : most;
    }
    public long years(int n) {
        if (n < 1 || n > 200) return no(BEYOND);
        if (s.year + n > 9999) return no(STATE);
        int done = 0;
        for (int i = 0; i < n; i++) {
            int lot = draw() % s.lots.length, mark = draw() % 4, sort = draw() % 3;
            s.year++;
            House h = s.lots[lot];
            if (h == null || h.kind() == 5 || h.marks[mark] == sort) continue;
            int was = h.marks[mark];
            h.marks[mark] = sort;
            if (!allLawful()) { h.marks[mark] = was; continue; }
            s.spent = Math.min(999999, s.spent + h.cost(this, mark));
            done++;
        }
        return done;
    }
    public long seed(int v) { int was = s.z; s.z = v; return was; }
    public long voice(int lot, int act, int x) {
        if (!lotOk(lot) || act < 0 || act > 3) return no(BEYOND);
        House h = s.lots[lot];
        if (h == null) return no(NONE);
        Say say = new Say();
        say.lot = lot;
        int r = act == 0 ? h.stands(say, x) : act == 1 ? h.paints(say, x) : act == 2 ? h.turns(say, x) : h.tells(say, x);
        trace = say.bodies;
        return r;
    }
    public long trace(int i) { return i >= 0 && i < trace.size() ? trace.get(i) : no(NONE); }
    public long sheet(int sheet, int b, int n) {
        if (sheet < 0 || sheet > 3 || (b != 0 && b != 8 && b != 16 && b != 32)) return no(BEYOND);
        if (b == 0) { sheets[sheet] = null; return 1; }
        if (n < 0) return no(STATE);
        if (n > 64) return no(BEYOND);
        sheets[sheet] = new long[n];
        bits[sheet] = b;
        return 1;
    }
    public long put(int sheet, int i, int v) {
        if (sheet < 0 || sheet > 3) return no(BEYOND);
        if (sheets[sheet] == null) return no(NONE);
        if (i < 0 || i >= sheets[sheet].length) return no(BEYOND);
        sheets[sheet][i] = bits[sheet] == 8 ? (byte) v : bits[sheet] == 16 ? (short) v : v;
        return 1;
    }
    public long move(int a, int i, int b, int j, int n) {
        if (a < 0 || a > 3 || b < 0 || b > 3) return no(BEYOND);
        if (sheets[a] == null || sheets[b] == null) return no(NONE);
        if (bits[a] != bits[b]) return no(KIND);
        if (n < 0 || i < 0 || j < 0 || (long) i + n > sheets[a].length || (long) j + n > sheets[b].length) return no(BEYOND);
        long[] part = Arrays.copyOfRange(sheets[a], i, i + n);
        for (int k = 0; k < n; k++) sheets[b][j + k] = part[k];
        return n;
    }
    public long builds(int sheet) {
        if (sheet < 0 || sheet > 3) return no(BEYOND);
        if (sheets[sheet] == null) return no(NONE);
        int n = 0;
        while (n < sheets[sheet].length && whyNot(n, 0, sheets[sheet][n]) == 0) n++;
        return n;
    }
    public long judge(int sheet) {
        if (sheet < 0 || sheet > 3) return no(BEYOND);
        if (sheets[sheet] == null) return no(NONE);
        int n = sheets[sheet].length;
        for (int i = 0; i < Math.max(n, s.lots.length); i++) {
            if (i >= n || i >= s.lots.length) return i;
            long v = sheets[sheet][i];
            House h = s.lots[i];
            boolean ok = h == null ? v == -1 : v >= 0 && v <= 80 && Arrays.equals(h.marks, marksOf((int) v));
            if (!ok) return i;
        }
        return -1;
    }
    public long image() { kept = s.copy(); return ++images; }
    public long restore() {
        if (kept == null) return no(NONE);
        s = kept.copy();
        return s.year;
    }
    public long tell(int v) {
        if (s.waiting.size() == 20) return no(FULL);
        s.waiting.add(v);
        return s.waiting.size();
    }
    public long check() {
        List<Integer> l = s.waiting;
        s.waiting = new ArrayList<>();
        for (int i = 0; i < l.size(); i++) if (i >= s.lots.length || mays(i).size() != l.get(i)) return i + 1;
        return 0;
    }
    public long count(int what) {
        int[] a = {s.rows, s.columns, s.shape, s.least, s.most, houses(), s.year, s.spent, s.tape.size(),
            s.waiting.size(), trace.size(), s.z};
        return what >= 0 && what < a.length ? a[what] : no(BEYOND);
    }
    public long told(int k) { return k >= 1 && k <= 5 ? refused[k] : no(BEYOND); }
}
