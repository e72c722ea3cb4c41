/** The edges that promises 1 to 12 name: just below, there, and just above; what is refused changes nothing. */
public final class TownEdgesTest {
    private static final int MIN = Integer.MIN_VALUE;
    private static final int MAX = Integer.MAX_VALUE;

    private static AlikeTown x;

    public static void main(String[] args) {
        beginsAsAtFirst();
        sharesNothing();
        laysFromOneToEight();
        emptiesAllLots();
        setsLawsFromNoneToFour();
        keepsLeastAtMost();
        buildsInEmptyLotsAlone();
        buildsByPairsOfTheLot();
        countsBuilt();
        pullsHouses();
        countsBlankAsSortNone();
        tellsWhatLotsHave();
        becomesAnyKind();
        isOfItsKindAndThoseAbove();
        paints();
        paintsByPairsOfTheLot();
        refusesPaintInOrder();
        countsAlike();
        tellsThoseThatMay();
        tellsAllAndNoneThatMay();
        tellsPairsInOrder();
        Due.end("TownEdgesTest");
    }

    private static void is(String what, long got, long want) {
        Due.is(what, got, want);
    }

    private static void town(int rows, int columns, int shape) {
        x = new AlikeTown();
        x.town(rows, columns, shape);
    }

    private static void law(AlikeTown y, int least, int most) {
        y.rule(0, 0);
        y.rule(1, most);
        y.rule(0, least);
    }

    /** LOTS of the full town: 0 FREE, 1 HELD, 2 a CHURCH, 3 EMPTY, 4 BOUGHT, 5 EMPTY. */
    private static void full() {
        x = new AlikeTown();
        Look.full(x);
    }

    // ---- promise 1

    private static void beginsAsAtFirst() {
        x = new AlikeTown();
        int[] first = {1, 4, 0, 1, 1, 0, 0, 0, 0, 0, 0, 1};
        for (int what = 0; what < first.length; what++) {
            is("1 count " + what, x.count(what), first[what]);
        }
        for (int lot = 0; lot < 4; lot++) {
            is("1 empty " + lot, x.ofLot(lot, 0), 0);
            is("1 may " + lot, x.may(lot, -1), 81);
            is("1 sheet missing " + lot, x.judge(lot), Due.NONE);
        }
        is("1 four lots", x.ofLot(4, 0), Due.BEYOND);
        is("1 no trace", x.trace(0), Due.NONE);
        is("1 no image", x.restore(), Due.NONE);
        is("1 no text of cost", x.law(0, 0, 0, 0, 0), 10);
        is("1 no text of worth", x.law(1, 1, 1, 1, 1), 0);
        is("1 nothing on the tape", x.text(0), -10);
        is("1 nothing waits", x.check(), 0);
        is("1 nothing is wrong", x.wrong(-1), 0);
        is("1 z", x.seed(0), 1);
        is("1 the first image", x.image(), 1);
        x = new AlikeTown();
        for (int k = 1; k <= 5; k++) {
            is("1 told " + k, x.told(k), 0);
        }
    }

    private static void sharesNothing() {
        AlikeTown other = new AlikeTown();
        full();
        is("1 another object's houses", other.count(5), 0);
        is("1 another object's lots", other.count(0) * other.count(1), 4);
        is("1 another object's image", other.restore(), Due.NONE);
        is("1 another object's sheet", other.put(0, 0, 0), Due.NONE);
        is("1 another object's cost", other.law(0, 0, 0, 0, 0), 10);
        is("1 another object's worth", other.law(1, 2, 0, 0, 0), 0);
        is("1 another object's errors", other.told(2), 2);
        AlikeTown third = new AlikeTown();
        third.town(1, 1, 2);
        third.sheet(0, 8, 0);
        is("1 the first one's lots", x.count(0) * x.count(1), 6);
        is("1 the first one's sheet", x.put(0, 3, 0), 1);
    }

    // ---- promise 2

    private static void laysFromOneToEight() {
        Look.range("2 rows", 1, 8, (y, v) -> y.town(v, 3, 1));
        Look.range("2 columns", 1, 8, (y, v) -> y.town(3, v, 1));
        Look.range("2 shape", 0, 2, (y, v) -> y.town(3, 3, v));
        Look.refuses("2 0 lots", Due.BEYOND, y -> y.town(0, 0, 0));
        Look.refuses("2 a product of 6 that isn't one of lines", Due.BEYOND, y -> y.town(-2, -3, 0));
        Look.refuses("2 a product that goes round", Due.BEYOND, y -> y.town(65537, 65537, 0));
        for (int rows = 1; rows <= 8; rows++) {
            for (int columns = 1; columns <= 8; columns++) {
                town(1, 1, 0);
                is("2 lots", x.town(rows, columns, (rows + columns) % 3), rows * columns);
                is("2 the last lot", x.ofLot(rows * columns - 1, 0), 0);
                is("2 one behind it", x.ofLot(rows * columns, 0), Due.BEYOND);
                is("2 rows", x.count(0), rows);
                is("2 columns", x.count(1), columns);
                is("2 shape", x.count(2), (rows + columns) % 3);
            }
        }
    }

    /** "all LOTS are EMPTY", those too that a smaller TOWN didn't have; nothing else is as at first. */
    private static void emptiesAllLots() {
        town(8, 8, 0);
        for (int lot = 0; lot < 64; lot++) {
            x.build(lot, 59, lot);
        }
        is("2 houses", x.count(5), 64);
        x.town(1, 1, 0);
        is("2 houses", x.count(5), 0);
        x.town(8, 8, 0);
        for (int lot = 0; lot < 64; lot++) {
            is("2 empty " + lot, x.ofLot(lot, 0), 0);
        }
        is("2 houses", x.count(5), 0);
        full();
        int[] had = new int[12];
        for (int what = 3; what < 12; what++) {
            had[what] = what == 5 ? 0 : x.count(what);
        }
        x.town(2, 3, 1);
        for (int what = 3; what < 12; what++) {
            is("2 count stays " + what, x.count(what), had[what]);
        }
        is("2 the text stays", x.law(0, 1, 2, 0, 0), 5);
        is("2 the sheets stay", x.put(0, 3, 80), 1);
        is("2 the image stays", x.restore(), 0);
        is("2 the image's house", x.pull(1), 30);
    }

    // ---- promise 3

    private static void anyLaw(AlikeTown y) {
        Look.full(y);
        y.rule(0, 0);
        y.rule(1, 4);
    }

    private static void setsLawsFromNoneToFour() {
        Look.range("3 what", 0, 1, (y, v) -> y.rule(v, 1));
        Look.range("3 least", TownEdgesTest::anyLaw, 0, 4, (y, v) -> y.rule(0, v));
        Look.range("3 most", TownEdgesTest::anyLaw, 0, 4, (y, v) -> y.rule(1, v));
        Look.refuses("3 beyond ahead of state", Due.BEYOND, y -> y.rule(0, 5));
        Look.refuses("3 beyond ahead of state", Due.BEYOND, y -> y.rule(1, -1));
        Look.refuses("3 what is beyond", Due.BEYOND, y -> y.rule(2, 5));
        x = new AlikeTown();
        is("3 what most was", x.rule(1, 3), 1);
        is("3 what least was", x.rule(0, 2), 1);
        is("3 what most was", x.rule(1, 4), 3);
        is("3 what least was", x.rule(0, 0), 2);
        is("3 what most was", x.rule(1, 1), 4);
        is("3 what least was", x.rule(0, 1), 0);
    }

    /** "STATE: LEAST would be above MOST": just below, there, and just above. */
    private static void keepsLeastAtMost() {
        for (int at = 0; at <= 4; at++) {
            int limit = at;
            Look.Setup lawAt = y -> {
                Look.full(y);
                law(y, limit, limit);
            };
            for (int v = 0; v <= 4; v++) {
                int to = v;
                if (v > limit) {
                    Look.refuses("3 least " + v + " above most " + limit, lawAt, Due.STATE, y -> y.rule(0, to));
                } else {
                    x = new AlikeTown();
                    lawAt.on(x);
                    is("3 least " + v + " to most " + limit, x.rule(0, v), limit);
                    is("3 least", x.count(3), v);
                    is("3 most stays", x.count(4), limit);
                }
                if (v < limit) {
                    Look.refuses("3 most " + v + " below least " + limit, lawAt, Due.STATE, y -> y.rule(1, to));
                } else {
                    x = new AlikeTown();
                    lawAt.on(x);
                    is("3 most " + v + " from least " + limit, x.rule(1, v), limit);
                    is("3 most", x.count(4), v);
                    is("3 least stays", x.count(3), limit);
                }
            }
        }
    }

    // ---- promise 4

    private static void buildsInEmptyLotsAlone() {
        Look.Setup emptyTown = y -> {
            Look.full(y);
            y.town(2, 3, 1);
        };
        Look.range("4 lot", emptyTown, 0, 5, (y, v) -> y.build(v, 0, 0));
        Look.range("4 km", emptyTown, 0, 69, (y, v) -> y.build(3, v, 0));
        Look.range("4 house", emptyTown, 0, 80, (y, v) -> y.build(3, 0, v));
        for (int lot : new int[] {0, 1, 2, 4}) {
            Look.refuses("4 state in lot " + lot, Due.STATE, y -> y.build(lot, 50, 0));
            Look.refuses("4 beyond ahead of state", Due.BEYOND, y -> y.build(lot, 0, 81));
            Look.refuses("4 beyond ahead of state", Due.BEYOND, y -> y.build(lot, 70, 0));
        }
        Look.refuses("4 state ahead of kind", Due.STATE, y -> y.build(0, 0, 13));
        Look.refuses("4 kind", Due.KIND, y -> y.build(3, 0, 0));
        Look.refuses("4 kind", Due.KIND, y -> y.build(3, 69, 40));
        Look.refuses("4 kind by the blank vane", Due.KIND, y -> y.build(5, 0, 5));
        Look.refuses("4 beyond ahead of kind", Due.BEYOND, y -> y.build(3, 70, 0));
        full();
        is("4 lawful", x.build(3, 0, 13), 5);
        full();
        is("4 a church", x.build(3, 50, 0), 5);
        full();
        is("4 beside a church and a blank", x.build(5, 0, 2), 5);
    }

    /** "KIND: a pair of that LOT wouldn't be LAWFUL": the pair alone, not one elsewhere. */
    private static void buildsByPairsOfTheLot() {
        town(1, 8, 0);
        for (int lot = 0; lot < 4; lot++) {
            Due.put(x, lot, 0, 0);
        }
        is("4 wrong elsewhere", x.wrong(-1), 3);
        is("4 wrong elsewhere", x.build(5, 0, 80), 5);
        is("4 a pair of the lot", x.build(4, 0, 13), Due.KIND);
        is("4 a pair of the lot", x.build(4, 0, 26), Due.KIND);
        is("4 both pairs", x.build(4, 0, 22), 6);
        is("4 wrong as ahead", x.wrong(-1), 3);
        town(3, 3, 2);
        int[] around = {1, 3, 5, 7};
        int[] houses = {13, 16, 22, 26};
        for (int i = 0; i < 4; i++) {
            x.build(around[i], 50, houses[i]);
        }
        for (int bound = 0; bound < 16; bound++) {
            for (int i = 0; i < 4; i++) {
                x.become(around[i], (bound >> i & 1) != 0 ? 0 : 50);
            }
            is("4 alike with none of " + bound, x.build(4, 0, 27), bound == 0 ? 5 : Due.KIND);
            x.pull(4);
            is("4 alike with each of " + bound, x.build(4, 0, 0), 5);
            x.pull(4);
        }
    }

    private static void countsBuilt() {
        town(8, 8, 0);
        for (int lot = 63; lot >= 0; lot--) {
            is("4 how many", x.build(lot, 50, lot), 64 - lot);
        }
        is("4 all are built", x.build(0, 50, 0), Due.STATE);
        is("4 all are built", x.build(63, 50, 0), Due.STATE);
        is("4 behind the last", x.build(64, 50, 0), Due.BEYOND);
    }

    // ---- promise 5

    private static void houses(AlikeTown y) {
        Look.full(y);
        y.build(3, 50, 0);
        y.build(5, 50, 0);
    }

    private static void pullsHouses() {
        Look.range("5 lot", TownEdgesTest::houses, 0, 5, (y, v) -> y.pull(v));
        Look.refuses("5 never built", Due.NONE, y -> y.pull(3));
        Look.Setup pulled = y -> {
            Look.full(y);
            y.pull(1);
        };
        Look.refuses("5 pulled already", pulled, Due.NONE, y -> y.pull(1));
        full();
        int[] due = {0, 13, 40, -1, 2 * 27 + 9};
        for (int lot = 0; lot < 5; lot++) {
            is("5 pull " + lot, x.pull(lot), due[lot] < 0 ? Due.NONE : due[lot]);
            is("5 empty " + lot, x.ofLot(lot, 0), 0);
        }
        is("5 none is left", x.count(5), 0);
    }

    /** "a BLANK MARK counts as SORT 0": one, and all. */
    private static void countsBlankAsSortNone() {
        int[] times = {27, 9, 3, 1};
        for (int mark = 0; mark < 4; mark++) {
            for (int sort = 0; sort < 3; sort++) {
                town(1, 1, 0);
                x.build(0, 0, 40 * sort);
                x.storm(mark, sort);
                is("5 blank " + mark, x.pull(0), sort * (40 - times[mark]));
            }
        }
        town(1, 1, 0);
        x.build(0, 0, 80);
        for (int mark = 0; mark < 4; mark++) {
            x.storm(mark, 2);
        }
        is("5 all is blank", x.pull(0), 0);
        is("5 the next one isn't blank", x.build(0, 0, 80), 1);
        is("5 the next one isn't blank", x.pull(0), 80);
    }

    // ---- promise 6

    private static void tellsWhatLotsHave() {
        Look.range("6 lot", 0, 5, (y, v) -> y.ofLot(v, 0));
        Look.range("6 what", 0, 11, (y, v) -> y.ofLot(0, v));
        for (int what = 1; what <= 11; what++) {
            int of = what;
            Look.refuses("6 empty, what " + what, Due.NONE, y -> y.ofLot(3, of));
        }
        Look.refuses("6 beyond ahead of none", Due.BEYOND, y -> y.ofLot(3, 12));
        Look.refuses("6 beyond ahead of none", Due.BEYOND, y -> y.ofLot(3, -1));
        Look.refuses("6 behind the last lot", Due.BEYOND, y -> y.ofLot(6, 1));
        full();
        int[][] due = {
            {1, 1, 3, 0, 0, 0, 0, 3, 3, 4, 4, 0},
            {1, 2, 8, 0, 1, 1, 1, 32, 34, 36, 38, 0},
            {1, 5, 5, 1, 1, 1, 1, -1, -1, -1, -1, 2},
            {0},
            {1, 6, 7, 2, 1, 0, 3, 4, 4, 4, 4, 3},
            {0},
        };
        for (int lot = 0; lot < 6; lot++) {
            for (int what = 0; what < due[lot].length; what++) {
                is("6 lot " + lot + " what " + what, x.ofLot(lot, what), due[lot][what]);
            }
        }
        Look.tellsAlone("6 what it tells", Look::full, 38, y -> y.ofLot(1, 10));
    }

    // ---- promises 7 and 8

    private static void becomesAnyKind() {
        Look.range("7 lot", TownEdgesTest::houses, 0, 5, (y, v) -> y.become(v, 0));
        Look.range("7 km", 0, 69, (y, v) -> y.become(0, v));
        Look.refuses("7 empty", Due.NONE, y -> y.become(3, 0));
        Look.refuses("7 beyond ahead of none", Due.BEYOND, y -> y.become(3, 70));
        Look.refuses("7 beyond ahead of none", Due.BEYOND, y -> y.become(3, -1));
        for (int kind = 0; kind < 7; kind++) {
            for (int to = 0; to < 7; to++) {
                town(1, 1, 0);
                x.build(0, 10 * kind + 9, 5);
                is("7 was " + kind, x.become(0, 10 * to), kind);
                is("7 kind", x.ofLot(0, 1), to);
                is("7 m", x.ofLot(0, 2), 0);
                is("7 house", x.pull(0), 5);
            }
        }
        town(1, 2, 0);
        x.build(0, 0, 0);
        x.build(1, 50, 80);
        is("7 needn't be lawful", x.become(1, 60), 5);
        is("7 needn't be lawful", x.wrong(-1), 1);
        is("7 lawful again", x.become(0, 50), 0);
        is("7 lawful again", x.wrong(-1), 0);
    }

    private static void isOfItsKindAndThoseAbove() {
        Look.range("8 lot", TownEdgesTest::houses, 0, 5, (y, v) -> y.as(v, 0));
        Look.range("8 kind", 0, 6, (y, v) -> y.as(4, v));
        Look.refuses("8 beyond ahead of none", Due.BEYOND, y -> y.as(3, 7));
        Look.refuses("8 beyond ahead of none", Due.BEYOND, y -> y.as(3, -1));
        Look.refuses("8 beyond ahead of kind", Due.BEYOND, y -> y.as(0, 7));
        Look.refuses("8 empty", Due.NONE, y -> y.as(3, 0));
        Look.refuses("8 empty", Due.NONE, y -> y.as(3, 4));
        Look.refuses("8 not of a kind under it", Due.KIND, y -> y.as(0, 4));
        Look.refuses("8 not of one beside it", Due.KIND, y -> y.as(0, 2));
        Look.refuses("8 not of one beside that above", Due.KIND, y -> y.as(2, 3));
        Look.refuses("8 not of one under that beside it", Due.KIND, y -> y.as(4, 5));
        String[] is = {"0", "01", "02", "03", "014", "025", "036"};
        for (int kind = 0; kind < 7; kind++) {
            for (int m = 0; m <= 9; m += 9) {
                for (int as = 0; as < 7; as++) {
                    town(1, 1, 0);
                    x.build(0, 10 * kind + m, 0);
                    is("8 " + kind + " as " + as, x.as(0, as), is[kind].indexOf('0' + as) >= 0 ? m : Due.KIND);
                }
            }
        }
    }

    // ---- promise 9

    private static void paints() {
        Look.Setup anyPairs = y -> {
            Look.full(y);
            law(y, 0, 4);
            y.become(2, 0);
            y.build(3, 0, 2 * 40);
            y.build(5, 0, 2 * 40);
        };
        Look.range("9 lot", anyPairs, 0, 5, (y, v) -> y.paint(v, 0, v == 0 ? 1 : 0));
        Look.range("9 mark", anyPairs, 0, 3, (y, v) -> y.paint(2, v, 0));
        Look.range("9 sort", anyPairs, 0, 2, (y, v) -> y.paint(2, 0, v == 0 ? 0 : v));
        Look.refuses("9 blank is no sort", anyPairs, Due.BEYOND, y -> y.paint(2, 0, 3));
        full();
        is("9 spent ahead", x.count(7), 23);
        is("9 spent then", x.paint(4, 3, 0), 27);
        is("9 it has it", x.ofLot(4, 6), 0);
        is("9 twice", x.paint(4, 3, 0), Due.STATE);
        is("9 spent", x.count(7), 27);
    }

    /** "KIND: a pair of that LOT wouldn't be LAWFUL": ALIKE just below LEAST, there, and just above MOST. */
    private static void paintsByPairsOfTheLot() {
        town(1, 4, 0);
        law(x, 2, 3);
        x.build(0, 0, 0);
        x.build(1, 0, 4);
        is("9 one would be alike", x.paint(1, 0, 1), Due.KIND);
        is("9 three are alike", x.paint(1, 3, 0), 10);
        is("9 four would be", x.paint(1, 2, 0), Due.KIND);
        is("9 three are alike as ahead", x.paint(1, 2, 2), 20);
        is("9 two are alike", x.paint(1, 1, 1), 30);
        is("9 one would be alike", x.paint(1, 0, 1), Due.KIND);
        Due.put(x, 2, 0, 80);
        Due.put(x, 3, 0, 40);
        is("9 wrong elsewhere", x.wrong(-1), 2);
        is("9 only its own pairs", x.paint(0, 3, 1), Due.KIND);
        is("9 only its own pairs", x.paint(0, 2, 2), 40);
        is("9 wrong already, and behind it", x.paint(3, 0, 2), Due.KIND);
        is("9 wrong already, and behind it", x.paint(3, 0, 0), Due.KIND);
    }

    private static void refusesPaintInOrder() {
        Look.refuses("9 empty", Due.NONE, y -> y.paint(3, 0, 0));
        Look.refuses("9 beyond ahead of none", Due.BEYOND, y -> y.paint(3, 4, 0));
        Look.refuses("9 beyond ahead of none", Due.BEYOND, y -> y.paint(3, 0, 3));
        Look.refuses("9 it has that sort", Due.STATE, y -> y.paint(0, 0, 0));
        Look.refuses("9 a church, another sort", Due.STATE, y -> y.paint(2, 0, 0));
        Look.refuses("9 a church, its sort", Due.STATE, y -> y.paint(2, 0, 1));
        Look.refuses("9 unlawful behind it", Due.KIND, y -> y.paint(0, 0, 1));
        Look.refuses("9 unlawful behind it", Due.KIND, y -> y.paint(1, 1, 0));
        Look.Setup wrong = y -> {
            Look.full(y);
            Due.put(y, 3, 0, 80);
        };
        Look.refuses("9 state ahead of kind", wrong, Due.STATE, y -> y.paint(0, 1, 0));
        Look.refuses("9 kind", wrong, Due.KIND, y -> y.paint(3, 0, 0));
        Look.Setup wrongBesideChurch = y -> {
            Look.full(y);
            Due.put(y, 5, 0, 0);
        };
        Look.refuses("9 a church that has wrong pairs about it", wrongBesideChurch, Due.STATE, y -> y.paint(2, 0, 2));
    }

    // ---- promise 10

    private static void countsAlike() {
        Look.range("10 lot", TownEdgesTest::houses, 0, 5, (y, v) -> y.alike(v, 1));
        Look.range("10 other", TownEdgesTest::houses, 0, 5, (y, v) -> y.alike(1, v));
        Look.refuses("10 the first is empty", Due.NONE, y -> y.alike(3, 0));
        Look.refuses("10 the other is empty", Due.NONE, y -> y.alike(0, 3));
        Look.refuses("10 both are", Due.NONE, y -> y.alike(3, 5));
        Look.refuses("10 an empty one with itself", Due.NONE, y -> y.alike(3, 3));
        Look.refuses("10 beyond ahead of none", Due.BEYOND, y -> y.alike(3, 6));
        Look.refuses("10 beyond ahead of none", Due.BEYOND, y -> y.alike(-1, 3));
        int[] other = {40, 13, 4, 1, 0};
        for (int alike = 0; alike <= 4; alike++) {
            town(1, 3, 0);
            x.build(0, 50, 0);
            x.build(2, 59, other[alike]);
            is("10 alike", x.alike(0, 2), alike);
            is("10 alike", x.alike(2, 0), alike);
            x.storm(0, 0);
            is("10 churches stay", x.alike(0, 2), alike);
        }
        Look.tellsAlone("10 what it tells", Look::full, 1, y -> y.alike(0, 1));
    }

    // ---- promise 11

    private static void tellsThoseThatMay() {
        Look.range("11 lot", 0, 5, (y, v) -> y.may(v, -1));
        Look.refuses("11 below -1", Due.BEYOND, y -> y.may(0, -2));
        Look.refuses("11 below -1", Due.BEYOND, y -> y.may(0, MIN));
        Look.refuses("11 beyond of the lot, no i-th", Due.BEYOND, y -> y.may(6, 81));
        full();
        for (int lot = 0; lot < 6; lot++) {
            int many = x.may(lot, -1);
            int last = x.may(lot, many - 1);
            Due.holds("11 the last of lot " + lot, last >= many - 1 && last <= 80);
            is("11 behind the last of lot " + lot, x.may(lot, many), Due.NONE);
            is("11 far behind it", x.may(lot, MAX), Due.NONE);
        }
        full();
        int many = x.may(0, -1);
        Look.refuses("11 no i-th", Due.NONE, y -> y.may(0, many));
        Look.refuses("11 no i-th", Due.NONE, y -> y.may(0, MAX));
        Look.tellsAlone("11 what it tells", Look::full, many, y -> y.may(0, -1));
        Look.tellsAlone("11 the first", Look::full, 0, y -> y.may(0, 0));
        is("11 alike with 13 in one", many, 32);
        x.pull(0);
        is("11 as if it were empty", x.may(0, -1), many);
        for (int i = 1; i < many; i++) {
            Due.holds("11 in order", x.may(0, i - 1) < x.may(0, i));
        }
    }

    private static void tellsAllAndNoneThatMay() {
        town(1, 3, 0);
        is("11 all", x.may(1, -1), 81);
        for (int i = 0; i <= 80; i++) {
            is("11 the i-th of all", x.may(1, i), i);
        }
        is("11 one too many", x.may(1, 81), Due.NONE);
        x.build(0, 0, 0);
        x.build(2, 0, 80);
        law(x, 3, 4);
        is("11 none", x.may(1, -1), 0);
        is("11 none", x.may(1, 0), Due.NONE);
        x.pull(2);
        law(x, 4, 4);
        is("11 one", x.may(1, -1), 1);
        is("11 one", x.may(1, 0), 0);
        is("11 not two", x.may(1, 1), Due.NONE);
        x.storm(0, 0);
        is("11 none goes with a blank", x.may(1, -1), 0);
        is("11 with nothing beside it", x.may(2, -1), 81);
    }

    // ---- promise 12

    private static void tellsPairsInOrder() {
        Look.refuses("12 below -1", Due.BEYOND, y -> y.wrong(-2));
        Look.refuses("12 below -1", Due.BEYOND, y -> y.wrong(MIN));
        Look.refuses("12 nothing is wrong", Due.NONE, y -> y.wrong(0));
        Look.Setup wrong = y -> {
            Look.full(y);
            Due.put(y, 3, 0, 63);
            Due.put(y, 5, 0, 63);
        };
        x = new AlikeTown();
        wrong.on(x);
        int[] pairs = {3, 3 * 64 + 4, 3 * 64 + 5, 4 * 64 + 5};
        is("12 how many", x.wrong(-1), pairs.length);
        for (int i = 0; i < pairs.length; i++) {
            is("12 pair " + i, x.wrong(i), pairs[i]);
        }
        Look.refuses("12 one too many", wrong, Due.NONE, y -> y.wrong(4));
        Look.refuses("12 far too many", wrong, Due.NONE, y -> y.wrong(MAX));
        Look.tellsAlone("12 how many", wrong, 4, y -> y.wrong(-1));
        Look.tellsAlone("12 the last", wrong, 4 * 64 + 5, y -> y.wrong(3));
        town(8, 8, 2);
        law(x, 4, 4);
        x.sheet(0, 8, 64);
        x.builds(0);
        is("12 none", x.wrong(-1), 0);
        law(x, 0, 3);
        is("12 all", x.wrong(-1), 128);
        is("12 the first of all", x.wrong(0), 1);
        is("12 the last of all", x.wrong(127), 62 * 64 + 63);
        is("12 behind all", x.wrong(128), Due.NONE);
    }
}
