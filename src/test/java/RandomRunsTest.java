import java.util.Random;

/** Random runs of calls, each answer compared with that of PlainTown. */
public final class RandomRunsTest {
    /** Some acts take more than one call, and an object is used for 512. */
    private static final int ACTS = 430;

    private static final String SIGNS = "kmcrdv0123456789|&<=>+-*/%!()";

    private final Random random;
    private final AlikeTown town = new AlikeTown();
    private final PlainTown plain = new PlainTown();
    private String call;
    private long got;
    private long want;

    private RandomRunsTest(long seed) { random = new Random(seed); }

    public static void main(String[] args) {
        int runs = args.length > 0 ? Integer.parseInt(args[0]) : 400;
        long first = args.length > 1 ? Long.parseLong(args[1]) : 1;
        int wrong = 0;
        for (long seed = first; seed < first + runs; seed++) {
            if (!new RandomRunsTest(seed).isRight(seed)) wrong++;
        }
        System.out.println(runs + " random runs, " + wrong + " not as PlainTown answers");
        if (wrong != 0) System.exit(1);
    }

    private boolean isRight(long seed) {
        for (int i = 0; i < ACTS; i++) {
            oneCall();
            if (got != want) {
                System.out.println("seed " + seed + " call " + i + ": " + call + " answered " + got + ", due is " + want);
                return false;
            }
        }
        return true;
    }

    private int below(int n) { return random.nextInt(n); }

    /** A number from least to most, and now and then one beyond. */
    private int near(int least, int most) {
        int r = below(60);
        if (r == 0) return least - 1;
        if (r == 1) return most + 1;
        if (r == 2) return random.nextInt();
        return least + below(most - least + 1);
    }
    private int lot() { return near(0, plain.s.lots.length - 1); }
    private int mark() { return near(0, 3); }
    private int sort() { return near(0, 2); }
    private int km() { return below(3) == 0 ? near(0, 69) : below(10); }
    private int any() { return below(4) == 0 ? random.nextInt() : below(41) - 20; }

    /** Whether all that is tried one by one stays few enough. */
    private boolean isSmall() { return plain.houses() <= 5 && plain.wrongs().size() <= 20; }

    private void is(String what, long got, long want) {
        call = what;
        this.got = got;
        this.want = want;
    }

    private void oneCall() {
        switch (below(46)) {
            case 0: newTown(); break;
            case 1: { int w = near(0, 1), v = near(0, 4); if (below(2) == 0) v = 1; is("rule " + w + " " + v, town.rule(w, v), plain.rule(w, v)); break; }
            case 2: case 3: case 4: case 5: case 6: buildOne(); break;
            case 7: { int l = lot(); if (below(2) == 0) is("pull " + l, town.pull(l), plain.pull(l)); else buildOne(); break; }
            case 8: { int l = lot(), w = near(0, 11); is("ofLot " + l + " " + w, town.ofLot(l, w), plain.ofLot(l, w)); break; }
            case 9: { int l = lot(), k = km(); is("become " + l + " " + k, town.become(l, k), plain.become(l, k)); break; }
            case 10: { int l = lot(), k = near(0, 6); is("as " + l + " " + k, town.as(l, k), plain.as(l, k)); break; }
            case 11: case 12: { int l = lot(), k = mark(), s = sort(); is("paint " + l + " " + k + " " + s, town.paint(l, k, s), plain.paint(l, k, s)); break; }
            case 13: { int l = lot(), o = lot(); is("alike " + l + " " + o, town.alike(l, o), plain.alike(l, o)); break; }
            case 14: { int l = lot(), w = near(-1, 40); is("may " + l + " " + w, town.may(l, w), plain.may(l, w)); break; }
            case 15: { int w = near(-1, 5); is("wrong " + w, town.wrong(w), plain.wrong(w)); break; }
            case 16: { long w = random.nextLong(); int n = near(1, 8); is("feed " + w + " " + n, town.feed(w, n), plain.feed(w, n)); break; }
            case 17: case 18: feedText(); break;
            case 19: { int u = near(0, 1); is("text " + u, town.text(u), plain.text(u)); break; }
            case 20: { int u = near(0, 1), a = any(), b = any(), c = any(), d = any(); is("law " + u + " " + a + " " + b + " " + c + " " + d, town.law(u, a, b, c, d), plain.law(u, a, b, c, d)); break; }
            case 21: case 22: case 23: if (isSmall()) { int l = lot(), k = mark(), s = sort(), w = near(0, 1); is("wish " + l + " " + k + " " + s + " " + w, town.wish(l, k, s, w), plain.wish(l, k, s, w)); } else newTown(); break;
            case 24: case 25: if (plain.houses() <= 10) { int l = lot(), k = mark(), s = sort(); is("steps " + l + " " + k + " " + s, town.steps(l, k, s), plain.steps(l, k, s)); } else { int i = near(0, 9); is("trace " + i, town.trace(i), plain.trace(i)); } break;
            case 26: if (isSmall()) is("right", town.right(), plain.right()); else newTown(); break;
            case 27: { int n = near(1, 9); is("rows " + n, town.rows(n), plain.rows(n)); break; }
            case 28: { int n = near(3, 9); is("rings " + n, town.rings(n), plain.rings(n)); break; }
            case 29: is("before", town.before(), plain.before()); break;
            case 30: { int n = near(0, 3); is("drawn " + n, town.drawn(n), plain.drawn(n)); break; }
            case 31: { int k = mark(), s = sort(); if (below(2) == 0) is("storm " + k + " " + s, town.storm(k, s), plain.storm(k, s)); else is("harm " + k + " " + s, town.harm(k, s), plain.harm(k, s)); break; }
            case 32: is("worst", town.worst(), plain.worst()); break;
            case 33: if (below(3) == 0) is("fill", town.fill(), plain.fill()); else is("worth", town.worth(), plain.worth()); break;
            case 34: { int w = near(0, 1); is("pays " + w, town.pays(w), plain.pays(w)); break; }
            case 35: { int n = near(1, 200); is("years " + n, town.years(n), plain.years(n)); break; }
            case 36: { int v = random.nextInt(); is("seed " + v, town.seed(v), plain.seed(v)); break; }
            case 37: { int l = lot(), a = near(0, 3), x = any(); is("voice " + l + " " + a + " " + x, town.voice(l, a, x), plain.voice(l, a, x)); break; }
            case 38: { int i = near(0, 9); is("trace " + i, town.trace(i), plain.trace(i)); break; }
            case 39: newSheet(); break;
            case 40: { int n = near(0, 3), i = near(0, 8), v = below(3) == 0 ? random.nextInt() : near(-1, 80); is("put " + n + " " + i + " " + v, town.put(n, i, v), plain.put(n, i, v)); break; }
            case 41: { int a = near(0, 3), i = near(0, 6), b = near(0, 3), j = near(0, 6), n = near(0, 6); is("move " + a + " " + i + " " + b + " " + j + " " + n, town.move(a, i, b, j, n), plain.move(a, i, b, j, n)); break; }
            case 42: { int n = near(0, 3); if (below(3) == 0) is("judge " + n, town.judge(n), plain.judge(n)); else is("builds " + n, town.builds(n), plain.builds(n)); break; }
            case 43: { if (below(2) == 0) is("image", town.image(), plain.image()); else is("restore", town.restore(), plain.restore()); break; }
            case 44: tellOrCheck(); break;
            default: { int k = near(0, 11); if (below(2) == 0) is("count " + k, town.count(k), plain.count(k)); else { k = near(1, 5); is("told " + k, town.told(k), plain.told(k)); } }
        }
    }

    private void newTown() {
        if (below(3) != 0) { buildOne(); return; }
        int big = below(6) == 0 ? 8 : 4;
        int r = below(2) == 0 ? 1 : near(1, big), c = near(1, below(3) == 0 ? 8 : big), sh = near(0, 2);
        is("town " + r + " " + c + " " + sh, town.town(r, c, sh), plain.town(r, c, sh));
    }

    /** Builds mostly what may stand there. */
    private void buildOne() {
        int l = lot(), k = km(), h = near(0, 80);
        if (below(4) != 0 && plain.lotOk(l) && !plain.mays(l).isEmpty()) h = plain.mays(l).get(below(plain.mays(l).size()));
        is("build " + l + " " + k + " " + h, town.build(l, k, h), plain.build(l, k, h));
    }

    private String expression(int use, int depth) {
        String names = use == 0 ? "km" : "crdv";
        int r = below(depth <= 0 ? 3 : 9);
        if (r == 0) return String.valueOf(below(below(2) == 0 ? 12 : 10000));
        if (r < 3) return String.valueOf(names.charAt(below(names.length())));
        if (r == 3) return "!" + expression(use, 0);
        if (r == 4) return "(" + expression(use, depth - 1) + ")";
        return expression(use, depth - 1) + "|&<=>+-*/%".charAt(below(10)) + expression(use, depth - 1);
    }

    /** Feeds a TEXT, now and then one with a FAULT, and reads it. */
    private void feedText() {
        int use = below(2);
        StringBuilder t = new StringBuilder(expression(use, 3));
        if (below(4) == 0) t.insert(below(t.length() + 1), SIGNS.charAt(below(SIGNS.length())));
        if (below(8) == 0) t.insert(0, "!(!(((((".substring(0, below(8)));
        if (below(8) == 0) t.setLength(below(t.length() + 1));
        for (int i = 0; i < t.length(); i += 8) {
            long word = 0;
            int n = Math.min(8, t.length() - i);
            for (int j = n - 1; j >= 0; j--) word = word << 8 | t.charAt(i + j);
            is("feed " + word + " " + n, town.feed(word, n), plain.feed(word, n));
            if (got != want) return;
        }
        is("text " + use + " of " + t, town.text(use), plain.text(use));
    }

    private void newSheet() {
        int n = near(0, 3), b = below(8) == 0 ? near(0, 32) : 8 << below(3), m = below(3) == 0 ? near(0, 64) : near(0, 9);
        is("sheet " + n + " " + b + " " + m, town.sheet(n, b, m), plain.sheet(n, b, m));
    }

    private void tellOrCheck() {
        int r = below(12);
        if (r == 0) { is("check", town.check(), plain.check()); return; }
        int next = plain.s.waiting.size();
        int v = r < 10 && next < plain.s.lots.length ? plain.mays(next).size() : below(81);
        is("tell " + v, town.tell(v), plain.tell(v));
    }
}
