import java.util.Random;

/**
 * Wishes, and what puts all right, in boards, rings and toruses of up to 25 LOTS, compared with what trying all
 * sets of at most 4 CHANGES finds; what is WRONG is counted as it goes, so that larger towns than WishesTest's
 * can be asked.
 */
public final class TorusWishesTest {
    private static final int NONE = (int) Due.NONE;
    private static final int CHURCH = 5;
    private static final int MOST_WRONG = 8;

    private final AlikeTown town = new AlikeTown();
    private final Random random;
    private final int rows;
    private final int columns;
    private final int shape;
    private final int lots;
    private int least = 1;
    private int most = 1;

    /** What stands in the LOTS; KIND -1: nothing. */
    private final int[] kinds;
    private final int[][] marks;
    private final int[][] costs;
    private int best;

    private TorusWishesTest(long seed) {
        random = new Random(seed);
        rows = 3 + random.nextInt(3);
        columns = 3 + random.nextInt(3);
        shape = random.nextInt(4) == 0 ? random.nextInt(2) : 2;
        lots = town.town(rows, columns, shape);
        kinds = new int[lots];
        marks = new int[lots][4];
        costs = new int[lots][4];
    }

    public static void main(String[] args) {
        int[] found = new int[6];
        int runs = args.length > 0 ? Integer.parseInt(args[0]) : 300;
        long first = args.length > 1 ? Long.parseLong(args[1]) : 1;
        for (long seed = first; seed < first + runs; seed++) {
            new TorusWishesTest(seed).run("seed " + seed, found);
        }
        System.out.println("found " + java.util.Arrays.toString(found));
        for (int i = 0; i < 6; i++) {
            Due.holds("some of " + i + " CHANGES", found[i] > 0);
        }
        Due.end("TorusWishesTest");
    }

    private void run(String run, int[] found) {
        mayBeLoose();
        if (random.nextInt(2) == 0) {
            Due.is(run + " text", Due.text(town, 0, "m*k+3"), 1);
        }
        build();
        spoil();
        look();
        int wrong = wrongs();
        Due.is(run + " wrong", town.wrong(-1), wrong);
        if (wrong > MOST_WRONG) {
            return;
        }
        int[] right = search(0, -1, 0);
        Due.is(run + " right", town.right(), right[0]);
        found[right[0] < 0 ? 5 : right[0]]++;
        askWish(run, found, random.nextInt(lots), random.nextInt(4), random.nextInt(3));
    }

    private void askWish(String run, int[] found, int lot, int mark, int sort) {
        if (kinds[lot] < 0) {
            return;
        }
        int[] due = wished(lot, mark, sort);
        String what = run + " wish " + lot + " " + mark + " " + sort;
        Due.is(what, town.wish(lot, mark, sort, 0), due[0]);
        Due.is(what + " cheapest", town.wish(lot, mark, sort, 1), due[1]);
        found[due[0] < 0 ? 5 : due[0]]++;
    }

    // ---- towns that are nearly lawful

    private void mayBeLoose() {
        if (random.nextInt(2) == 0) {
            most = 1 + random.nextInt(4);
            least = random.nextInt(most + 1);
            town.rule(1, most);
            town.rule(0, least);
        }
    }

    private void build() {
        for (int lot = 0; lot < lots; lot++) {
            int many = town.may(lot, -1);
            if (many > 0 && random.nextInt(12) > 0) {
                int km = random.nextInt(3) == 0 ? random.nextInt(70) : random.nextInt(10);
                town.build(lot, km, town.may(lot, random.nextInt(many)));
            }
        }
        if (random.nextInt(2) == 0) {
            town.fill();
        }
    }

    private void spoil() {
        int some = random.nextInt(4);
        for (int i = 0; i < some; i++) {
            int lot = random.nextInt(lots);
            if (town.ofLot(lot, 0) == 1) {
                int km = 10 * town.ofLot(lot, 1) + town.ofLot(lot, 2);
                int step = new int[] {1, 3, 9, 27}[random.nextInt(4)];
                Due.put(town, lot, km, (town.pull(lot) + step) % 81);
            }
        }
        int storm = random.nextInt(12);
        if (random.nextInt(4) == 0 && town.harm(storm / 3, storm % 3) <= MOST_WRONG) {
            town.storm(storm / 3, storm % 3);
        }
    }

    private void look() {
        for (int lot = 0; lot < lots; lot++) {
            boolean isEmpty = town.ofLot(lot, 0) == 0;
            kinds[lot] = isEmpty ? -1 : town.ofLot(lot, 1);
            for (int mark = 0; mark < 4 && !isEmpty; mark++) {
                marks[lot][mark] = town.ofLot(lot, 3 + mark);
                costs[lot][mark] = town.ofLot(lot, 7 + mark);
            }
        }
    }

    // ---- what is due

    private boolean isBound(int lot) {
        return kinds[lot] >= 0 && kinds[lot] != CHURCH;
    }

    private int wrongBetween(int lot, int other) {
        if (!isBound(lot) || !isBound(other)) {
            return 0;
        }
        int alike = 0;
        for (int mark = 0; mark < 4; mark++) {
            if (marks[lot][mark] != 3 && marks[lot][mark] == marks[other][mark]) {
                alike++;
            }
        }
        return alike < least || alike > most ? 1 : 0;
    }

    /** A line of a town has 3 LOTS at least here, so that each ring and torus closes. */
    private int wrongsAt(int lot) {
        int row = lot / columns;
        int column = lot % columns;
        int many = 0;
        if (column > 0 || shape > 0) {
            many += wrongBetween(lot, row * columns + (column + columns - 1) % columns);
        }
        if (column < columns - 1 || shape > 0) {
            many += wrongBetween(lot, row * columns + (column + 1) % columns);
        }
        if (row > 0 || shape == 2) {
            many += wrongBetween(lot, (row + rows - 1) % rows * columns + column);
        }
        if (row < rows - 1 || shape == 2) {
            many += wrongBetween(lot, (row + 1) % rows * columns + column);
        }
        return many;
    }

    private int wrongs() {
        int twice = 0;
        for (int lot = 0; lot < lots; lot++) {
            twice += wrongsAt(lot);
        }
        return twice / 2;
    }

    private int[] wished(int lot, int mark, int sort) {
        int was = marks[lot][mark];
        if (was != sort && kinds[lot] == CHURCH) {
            return new int[] {NONE, NONE};
        }
        int own = was == sort ? 0 : 1;
        marks[lot][mark] = sort;
        int[] due = search(own, 4 * lot + mark, own * costs[lot][mark]);
        marks[lot][mark] = was;
        return due;
    }

    /** The fewest CHANGES, with those that are done, and the least COST of so many; the locked MARK stays. */
    private int[] search(int done, int locked, int cost) {
        for (int many = done; many <= 4; many++) {
            best = -1;
            tryAll(0, many - done, wrongs(), cost, locked);
            if (best >= 0) {
                return new int[] {many, best};
            }
        }
        return new int[] {NONE, NONE};
    }

    /** Tries all sets of so many CHANGES of MARKS from the one numbered i (4 a LOT) on. */
    private void tryAll(int i, int left, int wrong, int cost, int locked) {
        if (left == 0) {
            best = wrong == 0 && (best < 0 || cost < best) ? cost : best;
            return;
        }
        if (wrong > 4 * left) {
            return;
        }
        for (int j = i; j < 4 * lots; j++) {
            int[] its = marks[j / 4];
            int was = its[j % 4];
            int had = wrongsAt(j / 4);
            for (int sort = 0; sort < 3; sort++) {
                if (isBound(j / 4) && j != locked && sort != was) {
                    its[j % 4] = sort;
                    tryAll(j + 1, left - 1, wrong - had + wrongsAt(j / 4), cost + costs[j / 4][j % 4], locked);
                }
            }
            its[j % 4] = was;
        }
    }
}
