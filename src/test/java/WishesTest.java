import java.util.Random;

/** Wishes, steps and what puts all right in towns that are nearly lawful, compared with what trying all finds. */
public final class WishesTest {
    private final Random random;
    private final AlikeTown town = new AlikeTown();
    private final PlainTown plain = new PlainTown();
    private final int lots;

    private WishesTest(long seed, int most) {
        random = new Random(seed);
        int rows = 1 + random.nextInt(3);
        int columns = 1 + random.nextInt(Math.min(8, most / rows));
        int shape = random.nextInt(3);
        lots = town.town(rows, columns, shape);
        plain.town(rows, columns, shape);
    }

    public static void main(String[] args) {
        int[] found = new int[6];
        int runs = args.length > 0 ? Integer.parseInt(args[0]) : 150;
        for (int seed = 1; seed <= runs; seed++) {
            new WishesTest(seed, 9).asksSteps("seed " + seed);
            new WishesTest(seed, 9).asksWishes("seed " + seed, found);
        }
        System.out.println("found " + java.util.Arrays.toString(found));
        for (int i = 0; i < 6; i++) {
            Due.holds("some of " + i + " CHANGES", found[i] > 0);
        }
        Due.end("WishesTest");
    }

    private void asksSteps(String run) {
        mayBeLoose();
        fill();
        for (int i = 0; i < 12; i++) {
            int lot = random.nextInt(lots);
            int mark = random.nextInt(4);
            int sort = random.nextInt(3);
            Due.is(run + " steps " + lot + " " + mark + " " + sort, town.steps(lot, mark, sort), plain.steps(lot, mark, sort));
        }
    }

    private void asksWishes(String run, int[] found) {
        mayBeLoose();
        fill();
        spoil();
        ask(run, found, 2);
        if (random.nextInt(3) == 0) {
            int mark = random.nextInt(4);
            int sort = random.nextInt(3);
            Due.is(run + " storm", town.storm(mark, sort), plain.storm(mark, sort));
            ask(run + " behind a storm", found, 1);
        }
        Due.is(run + " judge", town.judge(0), plain.judge(0));
        for (int lot = 0; lot < lots; lot++) {
            Due.is(run + " lot " + lot, town.pull(lot), plain.pull(lot));
        }
    }

    private void ask(String run, int[] found, int wishes) {
        long right = town.right();
        Due.is(run + " right", right, plain.right());
        found[right < 0 ? 5 : (int) right]++;
        for (int i = 0; i < wishes; i++) {
            int lot = random.nextInt(lots);
            int mark = random.nextInt(4);
            int sort = random.nextInt(3);
            long wish = town.wish(lot, mark, sort, 0);
            found[wish < 0 ? 5 : (int) wish]++;
            String what = run + " wish " + lot + " " + mark + " " + sort;
            Due.is(what, wish, plain.wish(lot, mark, sort, 0));
            Due.is(what + " cheapest", town.wish(lot, mark, sort, 1), plain.wish(lot, mark, sort, 1));
        }
    }

    private void mayBeLoose() {
        if (random.nextInt(3) == 0) {
            int most = 1 + random.nextInt(4);
            int least = random.nextInt(most + 1);
            town.rule(1, most);
            plain.rule(1, most);
            town.rule(0, least);
            plain.rule(0, least);
        }
    }

    /** Builds what may stand there, of any kind. */
    private void fill() {
        for (int lot = 0; lot < lots; lot++) {
            int many = town.may(lot, -1);
            if (many > 0 && random.nextInt(9) > 0) {
                int km = random.nextInt(3) == 0 ? random.nextInt(10) : random.nextInt(70);
                int house = town.may(lot, random.nextInt(many));
                Due.is("build", town.build(lot, km, house), plain.build(lot, km, house));
            }
        }
    }

    /** Puts other houses in some lots, near to those that were there. */
    private void spoil() {
        int some = random.nextInt(5);
        for (int i = 0; i < some; i++) {
            int lot = random.nextInt(lots);
            if (town.ofLot(lot, 0) == 1) {
                int km = 10 * town.ofLot(lot, 1) + town.ofLot(lot, 2);
                int house = town.pull(lot);
                plain.pull(lot);
                int step = new int[] {1, 3, 9, 27}[random.nextInt(4)];
                house = random.nextInt(4) == 0 ? random.nextInt(81) : (house + step) % 81;
                Due.put(town, lot, km, house);
                plain.build(lot, 50, house);
                plain.become(lot, km);
            }
        }
    }
}
