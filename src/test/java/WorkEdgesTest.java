import java.util.ArrayList;
import java.util.List;

/** The edges that promises 13 to 29 name: just below, there, and just above; what is refused changes nothing. */
public final class WorkEdgesTest {
    private static final int MIN = Integer.MIN_VALUE;
    private static final int MAX = Integer.MAX_VALUE;

    private static AlikeTown x;

    public static void main(String[] args) {
        feedsOneToEightBytes();
        takesTexts();
        leavesTheTextAhead();
        givesLaws();
        asksWishesOfHouses();
        findsNoneToFour();
        costsNoneToFour();
        changesEachMarkOnce();
        changesNoMarkOfTheWishOtherwise();
        wishesOfBlanksAndChurches();
        wishesAnew();
        asksStepsOfLawfulTowns();
        stepsNoneToThree();
        stepsOfTheLotItself();
        stepsBesideTheLotAlone();
        rightsNoneToFour();
        rightsManyPairs();
        rightsBySortsAlone();
        countsRows();
        countsRings();
        countsBefore();
        countsBeforeOfRings();
        drawsRows();
        drawsAllThatGo();
        blows();
        harms();
        tellsTheWorst();
        fillsAll();
        fillsByTheLastWay();
        fillsBy20000Tries();
        findsNoWayBy20000Tries();
        sumsWorth();
        paysTheMost();
        paysNothing();
        livesOneTo200Years();
        changesByDraws();
        livesYearByYear();
        Due.end("WorkEdgesTest");
    }

    private static void is(String what, long got, long want) {
        Due.is(what, got, want);
    }

    private static void law(AlikeTown y, int least, int most) {
        y.rule(0, 0);
        y.rule(1, most);
        y.rule(0, least);
    }

    /** A row of LOTS with HOUSES (-1: EMPTY), whatever THE LAW says. */
    private static void row(AlikeTown y, int shape, int... houses) {
        y.town(1, houses.length, shape);
        for (int i = 0; i < houses.length; i++) {
            if (houses[i] >= 0) {
                Due.put(y, i, 0, houses[i]);
            }
        }
    }

    private static void row(int shape, int... houses) {
        x = new AlikeTown();
        row(x, shape, houses);
    }

    /** The full town with HOUSES (churches) in LOTS 3 and 5, too. */
    private static void houses(AlikeTown y) {
        Look.full(y);
        y.build(3, 50, 0);
        y.build(5, 50, 0);
    }

    // ---- promise 13

    private static void feedsOneToEightBytes() {
        Look.range("13 n", 1, 8, (y, v) -> y.feed(0x3131313131313131L, v));
        Look.refuses("13 no byte", Due.BEYOND, y -> y.feed(0x31, 0));
        long word = '1' | '+' << 8 | '2' << 16 | '+' << 24 | (long) ('4' | '+' << 8 | '8' << 16) << 32 | 0xffL << 56;
        long[] due = {1, -12, 3, -14, 7, -16, 15, -17};
        for (int n = 1; n <= 8; n++) {
            x = new AlikeTown();
            is("13 bytes", x.feed(word, n), n);
            is("13 count", x.count(8), n);
            long answer = x.text(1);
            is("13 the lowest " + n, answer == 1 ? x.law(1, 0, 0, 0, 0) : answer, due[n - 1]);
        }
        x = new AlikeTown();
        x.feed(0x2b31, 2);
        x.feed(-1L << 8 | '3', 1);
        is("13 one behind the other", x.text(1), 1);
        is("13 one behind the other", x.law(1, 0, 0, 0, 0), 4);
    }

    // ---- promise 14

    private static void takesTexts() {
        Look.range("14 use", 0, 1, (y, v) -> y.text(v));
        Look.refuses("14 beyond, the tape stays", Due.BEYOND, y -> y.text(2));
        Look.Setup bare = y -> y.tell(81);
        Look.refuses("14 beyond, the tape stays empty", bare, Due.BEYOND, y -> y.text(-1));
        x = new AlikeTown();
        Look.full(x);
        is("14 the tape's text", x.text(1), 1);
        is("14 in place of the one ahead", x.law(1, 7, 7, 7, 7), 21);
        is("14 the other use has its own", x.law(0, 1, 2, 0, 0), 5);
        is("14 the tape is empty then", x.count(8), 0);
        is("14 an empty tape", x.text(1), -10);
        is("14 the one ahead stays", x.law(1, 7, 7, 7, 7), 21);
        is("14 an empty tape is no text", x.text(0), -10);
        is("14 the one ahead stays", x.law(0, 1, 2, 0, 0), 5);
    }

    /** "-10 less the FAULT (no ERROR; the one ahead stays; THE TAPE is empty, too)". */
    private static void leavesTheTextAhead() {
        String[] faulty = {"", "x", "c+", "c+r+", "c+(r*2", "12345", "c r"};
        int[] place = {0, 0, 2, 4, 6, 4, 1};
        for (int i = 0; i < faulty.length; i++) {
            x = new AlikeTown();
            Due.text(x, 1, "c*2");
            is("14 fault of " + faulty[i], Due.text(x, 1, faulty[i]), -10 - place[i]);
            is("14 the one ahead stays", x.law(1, 4, 50, 60, 70), 8);
            is("14 the tape is empty", x.count(8), 0);
            is("14 without one ahead", Due.text(x, 0, faulty[i]), i == 2 || i == 3 || i == 4 || i == 6 ? -10 : -10 - place[i]);
            is("14 none is taken", x.law(0, 3, 4, 0, 0), 14);
            for (int k = 1; k <= 5; k++) {
                is("14 no error", x.told(k), 0);
            }
        }
    }

    // ---- promise 15

    private static void givesLaws() {
        Look.range("15 use", 0, 1, (y, v) -> y.law(v, 1, 1, 1, 1));
        Look.tellsAlone("15 cost", Look::full, 2 * 7 + 3, y -> y.law(0, 3, 7, 50, 50));
        Look.tellsAlone("15 worth", Look::full, 2 * 20 - 11 + 5, y -> y.law(1, 20, 11, 5, 50));
        Look.tellsAlone("15 cost held", Look::full, 0, y -> y.law(0, -1, 0, 0, 0));
        Look.tellsAlone("15 worth held", Look::full, -99, y -> y.law(1, 0, 100, 0, 0));
        Look.tellsAlone("15 any numbers", Look::full, 99, y -> y.law(0, MAX, MIN, MIN, MAX));
        Look.tellsAlone("15 that wrap", Look::full, 0, y -> y.law(0, MAX, MIN + 1, MIN, MAX));
    }

    // ---- promise 16

    private static void asksWishesOfHouses() {
        Look.range("16 lot", WorkEdgesTest::houses, 0, 5, (y, v) -> y.wish(v, 0, 0, 0));
        Look.range("16 mark", 0, 3, (y, v) -> y.wish(0, v, 0, 0));
        Look.range("16 sort", 0, 2, (y, v) -> y.wish(0, 0, v, 0));
        Look.range("16 what", 0, 1, (y, v) -> y.wish(0, 0, 0, v));
        Look.refuses("16 blank is no sort", Due.BEYOND, y -> y.wish(4, 3, 3, 0));
        Look.refuses("16 empty", Due.NONE, y -> y.wish(3, 0, 0, 0));
        Look.refuses("16 empty", Due.NONE, y -> y.wish(5, 3, 2, 1));
        Look.refuses("16 beyond ahead of none", Due.BEYOND, y -> y.wish(3, 4, 0, 0));
        Look.refuses("16 beyond ahead of none", Due.BEYOND, y -> y.wish(3, 0, 3, 0));
        Look.refuses("16 beyond ahead of none", Due.BEYOND, y -> y.wish(3, 0, 0, 2));
        Look.refuses("16 a church", Due.NONE, y -> y.wish(2, 0, 0, 0));
        Look.tellsAlone("16 it has it", Look::full, 0, y -> y.wish(0, 1, 0, 0));
        Look.tellsAlone("16 it has it", Look::full, 0, y -> y.wish(0, 1, 0, 1));
    }

    private static final Look.Setup SIX_THE_SAME = y -> {
        Look.full(y);
        row(y, 0, 0, 0, 0, 0, 0, 0);
        law(y, 4, 4);
    };

    /** "the least number of CHANGES (4 at most ..)": 0 to 4, and one more. */
    private static void findsNoneToFour() {
        for (int many = 1; many <= 6; many++) {
            for (int mark = 0; mark < 4; mark++) {
                row(0, new int[many]);
                law(x, 4, 4);
                is("16 by none", x.wish(many - 1, mark, 0, 0), 0);
                is("16 by " + many, x.wish(many - 1, mark, 2, 0), many <= 4 ? many : Due.NONE);
                is("16 the cheapest of " + many, x.wish(many - 1, mark, 2, 1), many <= 4 ? 10 * many : Due.NONE);
            }
        }
        Look.refuses("16 not by 4", SIX_THE_SAME, Due.NONE, y -> y.wish(2, 3, 1, 0));
        Look.refuses("16 not by 4", SIX_THE_SAME, Due.NONE, y -> y.wish(2, 3, 1, 1));
        for (int church = 0; church <= 5; church++) {
            x = new AlikeTown();
            SIX_THE_SAME.on(x);
            x.become(church, 50);
            is("16 up to a church in " + church, x.wish(0, 0, 1, 0), church > 4 ? Due.NONE : church == 0 ? Due.NONE : church);
        }
    }

    /** "CHEAPEST: the least COST of all that many", with what each KIND costs. */
    private static void costsNoneToFour() {
        int[] kms = {1, 12, 23, 34, 45, 62};
        int[] costs = {11, 6, 26, 4, 12, 0};
        for (int many = 1; many <= 4; many++) {
            for (int first = 0; first + many <= kms.length; first++) {
                row(0, new int[many]);
                law(x, 4, 4);
                int due = 0;
                for (int i = 0; i < many; i++) {
                    x.become(i, kms[first + i]);
                    due += costs[first + i];
                }
                Look.Act wish = y -> y.wish(0, 0, 1, 1);
                is("16 cost of " + many + " from " + first, wish.on(x), due);
                is("16 nothing is spent", x.count(7), 0);
            }
        }
        row(0, 0, 13);
        x.become(0, 23);
        x.become(1, 34);
        is("16 two", x.wish(0, 1, 1, 0), 2);
        is("16 the wish's and the cheaper house", x.wish(0, 1, 1, 1), 26 + 4);
        x.become(1, 29);
        is("16 the wish's and the cheaper house", x.wish(0, 1, 1, 1), 26 + 26);
        Due.text(x, 0, "90-30*k");
        is("16 the cheapest marks", x.wish(0, 1, 1, 1), 2 * 60 + 2 * 60);
        Due.text(x, 0, "30*k");
        is("16 the cheapest marks", x.wish(0, 1, 1, 1), 2 * 30 + 0);
    }

    /** "of each MARK of a HOUSE one at most": two MARKS of one HOUSE may be, up to all four. */
    private static void changesEachMarkOnce() {
        for (int unlike = 0; unlike <= 4; unlike++) {
            int[] other = {0, 1, 4, 13, 40};
            row(0, other[unlike], 0);
            x.become(1, 30);
            law(x, 4, 4);
            int colour = unlike == 4 ? 1 : 0;
            int both = unlike == 0 ? 2 : unlike + 1;
            is("18 all of one house", x.right(), unlike);
            is("16 all of one house", x.wish(0, 0, colour, 0), unlike);
            is("16 the free ones", x.wish(0, 0, colour, 1), 0);
            is("16 with a vane that the other has", x.wish(1, 3, 1, 0), unlike == 0 ? both : unlike);
            is("16 with a vane that neither has", x.wish(1, 3, 2, 0), both <= 4 ? both : Due.NONE);
        }
    }

    /** "that of the WISH too, if the MARK hasn't that SORT .. (A MARK of the WISH isn't CHANGED otherwise.)" */
    private static void changesNoMarkOfTheWishOtherwise() {
        row(0, 0, 27, -1);
        law(x, 4, 4);
        x.become(0, 30);
        is("16 the other's colour alone", x.wish(0, 0, 0, 1), 10);
        is("16 its own colour alone", x.wish(0, 0, 1, 1), 0);
        is("16 both", x.wish(0, 0, 2, 1), 10);
        is("16 both", x.wish(0, 0, 2, 0), 2);
        is("18 either", x.right(), 1);
        row(0, 0, 27, 0, 27, 0, -1);
        law(x, 4, 4);
        is("18 two", x.right(), 2);
        is("16 those that have it stay", x.wish(1, 0, 1, 0), 3);
        is("16 one of them and it", x.wish(1, 0, 0, 0), 2);
        row(1, 0, 0, 0, 27, -1);
        x.build(4, 50, 0);
        law(x, 0, 3);
        is("16 each pair anew", x.wish(0, 0, 0, 0), 1);
        is("16 the one between can't be", x.wish(1, 0, 0, 0), 1);
    }

    private static void wishesOfBlanksAndChurches() {
        for (int sort = 0; sort < 3; sort++) {
            row(0, 40, -1, 40);
            x.storm(2, 1);
            is("16 a blank gets it", x.wish(0, 2, sort, 0), 1);
            is("16 a blank gets it", x.wish(0, 2, sort, 1), 10);
            is("17 a blank gets it", x.steps(0, 2, sort), 1);
            x.become(0, 50);
            is("16 a church stays", x.wish(0, 0, sort, 0), sort == 1 ? 0 : Due.NONE);
            is("16 a church stays", x.wish(0, 0, sort, 1), sort == 1 ? 0 : Due.NONE);
            is("17 a church stays", x.steps(0, 0, sort), sort == 1 ? 0 : Due.NONE);
            is("16 a church's blank stays", x.wish(0, 2, sort, 0), Due.NONE);
            is("17 a church's blank stays", x.steps(0, 2, sort), Due.NONE);
        }
        row(0, 0, 0, -1, 0);
        x.become(3, 50);
        is("16 a church has it, others are put right", x.wish(3, 0, 0, 0), 3);
        is("16 a church has it, others are put right", x.wish(3, 0, 0, 1), 30);
    }

    /** What was asked ahead doesn't matter: a MARK that a WISH was about may be CHANGED for another one. */
    private static void wishesAnew() {
        row(0, 0, 1);
        law(x, 4, 4);
        x.become(0, 30);
        for (int i = 0; i < 4; i++) {
            is("16 its vane stays", x.wish(0, 3, 0, 1), 10);
            is("16 its vane is free", x.wish(1, 0, 0, 1), 0);
            is("16 the other's vane stays", x.wish(1, 3, 1, 1), 0);
            is("16 neither stays", x.right(), 1);
        }
        x.become(0, 0);
        x.become(1, 30);
        for (int i = 0; i < 4; i++) {
            is("16 the other's vane stays", x.wish(1, 3, 1, 1), 10);
            is("16 its vane is free", x.wish(0, 0, 0, 1), 0);
            is("16 its vane stays", x.wish(0, 3, 0, 1), 0);
        }
    }

    // ---- promise 17

    private static final Look.Setup UNLAWFUL = y -> {
        Look.full(y);
        Due.put(y, 3, 0, 0);
    };

    private static void asksStepsOfLawfulTowns() {
        Look.range("17 lot", WorkEdgesTest::houses, 0, 5, (y, v) -> y.steps(v, 0, 0));
        Look.range("17 mark", 0, 3, (y, v) -> y.steps(0, v, v == 0 ? 0 : 2));
        Look.range("17 sort", 0, 2, (y, v) -> y.steps(0, 1, v));
        Look.refuses("17 blank is no sort", Due.BEYOND, y -> y.steps(4, 3, 3));
        Look.refuses("17 empty", Due.NONE, y -> y.steps(3, 0, 0));
        Look.refuses("17 beyond ahead of none", Due.BEYOND, y -> y.steps(3, 4, 0));
        Look.refuses("17 beyond ahead of none", Due.BEYOND, y -> y.steps(3, 0, -1));
        Look.refuses("17 not lawful", UNLAWFUL, Due.STATE, y -> y.steps(1, 1, 0));
        Look.refuses("17 not lawful, though it has it", UNLAWFUL, Due.STATE, y -> y.steps(1, 1, 1));
        Look.refuses("17 state ahead of not by 3", UNLAWFUL, Due.STATE, y -> y.steps(2, 1, 0));
        Look.refuses("17 none of an empty lot ahead of state", UNLAWFUL, Due.NONE, y -> y.steps(5, 0, 0));
        Look.refuses("17 beyond ahead of state", UNLAWFUL, Due.BEYOND, y -> y.steps(6, 0, 0));
        Look.refuses("17 beyond ahead of state", UNLAWFUL, Due.BEYOND, y -> y.steps(0, 0, 3));
        Look.refuses("17 a church", Due.NONE, y -> y.steps(2, 0, 0));
        Look.tellsAlone("17 it has it", Look::full, 0, y -> y.steps(0, 1, 0));
        Look.tellsAlone("17 one", Look::full, 1, y -> y.steps(0, 1, 2));
        Look.tellsAlone("17 two", Look::full, 2, y -> y.steps(0, 2, 1));
        Look.refuses("17 not by 3", Due.NONE, y -> y.steps(0, 0, 1));
    }

    /** LOT 1 is to have vane 1, which three about it have, and each of these has another vane but 0 to take. */
    private static final Look.Setup FOUR_STEPS = y -> {
        y.town(2, 3, 0);
        int[] houses = {4, 54, 76, 48, 34, 3};
        for (int lot = 0; lot < 6; lot++) {
            y.build(lot, 0, houses[lot]);
        }
    };

    /** "the least number of CHANGES (3 at most ..)": 4 would do, and each one brings it nearer by 1. */
    private static void stepsNoneToThree() {
        Look.refuses("17 by 4 alone", FOUR_STEPS, Due.NONE, y -> y.steps(1, 3, 1));
        x = new AlikeTown();
        FOUR_STEPS.on(x);
        is("17 lawful", x.wrong(-1) * 10 + x.count(5), 6);
        int[] lots = {0, 2, 4, 1};
        for (int i = 0; i < 4; i++) {
            is("17 steps left", x.steps(1, 3, 1), i == 0 ? Due.NONE : 4 - i);
            is("17 a step", x.paint(lots[i], 3, i == 3 ? 1 : 2), 10 * i + 10);
        }
        is("17 no step left", x.steps(1, 3, 1), 0);
        for (int kind = 0; kind < 7; kind++) {
            row(0, 13, 0);
            x.become(0, 10 * kind);
            is("17 one of the other ahead", x.steps(1, 1, 1), kind == 5 ? 1 : 2);
        }
    }

    private static void town(int least, int most, int columns, int... houses) {
        x = new AlikeTown();
        x.town(houses.length / columns, columns, 0);
        law(x, least, most);
        for (int lot = 0; lot < houses.length; lot++) {
            is("17 build", x.build(lot, 0, houses[lot]), lot + 1);
        }
    }

    /** "of the LOT ..": another MARK of it is CHANGED ahead, or the same one to another SORT. */
    private static void stepsOfTheLotItself() {
        town(1, 2, 2, 50, 59, 66, 41);
        is("17 its door ahead", x.steps(3, 0, 2), 2);
        Due.holds("17 its door", x.paint(3, 2, 0) >= 0);
        is("17 its door is changed", x.steps(3, 0, 2), 1);
        town(2, 3, 2, 22, 12, 77, 68);
        is("17 its colour ahead", x.steps(3, 1, 2), 2);
        Due.holds("17 its colour", x.paint(3, 0, 0) >= 0);
        is("17 its colour is changed", x.steps(3, 1, 2), 1);
        town(2, 3, 3, 73, 37, 29, 22, 1, 20);
        is("17 its roof and another's colour", x.steps(1, 2, 1), 3);
        Due.holds("17 its roof", x.paint(1, 1, 0) >= 0);
        is("17 another's colour", x.steps(1, 2, 1), 2);
        Due.holds("17 another's colour", x.paint(0, 0, 1) >= 0);
        is("17 both are changed", x.steps(1, 2, 1), 1);
        // As STEPS is read here, the MARK of the WISH may be CHANGED twice.
        town(1, 1, 3, 0, 58, 27);
        is("17 the mark itself ahead", x.steps(0, 0, 2), 3);
        Due.holds("17 the mark itself", x.paint(0, 0, 1) >= 0);
        is("17 then the other's", x.steps(0, 0, 2), 2);
        Due.holds("17 the other's", x.paint(1, 0, 0) >= 0);
        is("17 then once more", x.steps(0, 0, 2), 1);
    }

    /** "of the LOT and those SIDE BY SIDE with it alone": LOT 3 would have to be CHANGED for LOT 1. */
    private static void stepsBesideTheLotAlone() {
        Look.Setup needsAnother = y -> {
            Look.full(y);
            y.rule(0, 1);
            row(y, 0, 27, 4, 54, 31);
        };
        Look.refuses("17 another lot's change", needsAnother, Due.NONE, y -> y.steps(1, 0, 2));
        x = new AlikeTown();
        needsAnother.on(x);
        is("17 lawful", x.wrong(-1), 0);
        Due.holds("17 the other lot is changed", x.paint(3, 0, 0) >= 0);
        is("17 then two do", x.steps(1, 0, 2), 2);
        Due.holds("17 the first", x.paint(2, 0, 1) >= 0);
        is("17 then one does", x.steps(1, 0, 2), 1);
        Due.holds("17 the second", x.paint(1, 0, 2) >= 0);
        is("17 it has it", x.steps(1, 0, 2), 0);
        for (int shape = 0; shape <= 1; shape++) {
            row(shape, 0, -1, 13);
            is("17 beside it in a ring alone", x.steps(0, 1, 1), shape + 1);
        }
    }

    // ---- promise 18

    /** "the least number of CHANGES (4 at most ..)": 0 to 4, and one more. */
    private static void rightsNoneToFour() {
        int[] unlike = {0, 1, 4, 13, 40};
        for (int many = 0; many <= 4; many++) {
            row(0, 0, unlike[many]);
            law(x, 4, 4);
            is("18 by " + many, x.right(), many);
            x.become(0, 50);
            is("18 beside a church", x.right(), 0);
        }
        Look.Setup five = y -> {
            Look.full(y);
            row(y, 0, 0, 40, 41);
            law(y, 4, 4);
        };
        Look.refuses("18 not by 4", five, Due.NONE, AlikeTown::right);
        Look.Setup four = y -> {
            Look.full(y);
            row(y, 0, 0, 40, 40);
            law(y, 4, 4);
        };
        Look.tellsAlone("18 by 4", four, 4, AlikeTown::right);
        Look.tellsAlone("18 lawful", Look::full, 0, AlikeTown::right);
        x = new AlikeTown();
        is("18 nothing there", x.right(), 0);
        row(0, 0, 40, 80);
        law(x, 4, 4);
        is("18 not by 4", x.right(), Due.NONE);
        x.pull(1);
        is("18 without the one between", x.right(), 0);
    }

    /** One CHANGE puts four pairs right at most: 16 pairs by 4, and not a 17th. */
    private static void rightsManyPairs() {
        int[] lots = {9, 14, 41, 46, 27};
        for (int many = 0; many <= 5; many++) {
            x = new AlikeTown();
            x.town(8, 8, 2);
            law(x, 4, 4);
            x.sheet(0, 8, 64);
            x.builds(0);
            for (int i = 0; i < many; i++) {
                x.pull(lots[i]);
                Due.put(x, lots[i], 9, 54);
            }
            is("18 wrong", x.wrong(-1), 4 * many);
            is("18 by one each", x.right(), many <= 4 ? many : Due.NONE);
            is("16 a wish likewise", x.wish(9, 0, 0, 0), many <= 4 ? many : Due.NONE);
            is("16 a wish likewise", x.wish(9, 0, 0, 1), many <= 4 ? 19 * many : Due.NONE);
        }
    }

    /**
     * "a MARK gets a SORT 0 to 2": two HOUSES have one colour, and each of them two others about it that have the
     * other two; nothing else is alike. If a MARK could get BLANK, one CHANGE would do.
     */
    private static void rightsBySortsAlone() {
        x = new AlikeTown();
        x.town(2, 4, 0);
        law(x, 0, 0);
        int[] colours = {2, 0, 0, 1, -1, 1, 2, -1};
        for (int lot = 0; lot < 8; lot++) {
            if (colours[lot] >= 0) {
                Due.put(x, lot, 0, 27 * colours[lot] + (lot % 4 + lot / 4) % 2 * 13);
            }
        }
        is("18 one pair", x.wrong(-1) * 10000 + x.wrong(0), 10000 + 64 + 2);
        is("18 no sort is free", x.right(), 2);
        is("18 no change but by two", x.pays(0), Due.NONE);
        x.storm(0, 0);
        is("18 blanks", x.wrong(-1) + x.right(), 0);
    }

    // ---- promises 19 and 20

    private static void countsRows() {
        Look.range("19 n", 1, 9, (y, v) -> y.rows(v));
        int[] go = {16, 32, 24, 8, 1};
        for (int least = 0; least <= 4; least++) {
            int sum = 0;
            for (int most = least; most <= 4; most++) {
                sum += go[most];
                x = new AlikeTown();
                law(x, least, most);
                long due = 81;
                for (int n = 1; n <= 9; n++) {
                    is("19 rows of " + n + " by " + least + " to " + most, x.rows(n), due);
                    due *= sum;
                }
            }
        }
        Look.tellsAlone("19 what it tells", Look::full, 81 * 32, y -> y.rows(2));
    }

    /** RINGS of 3 and 4 are counted one by one: with each first HOUSE there are as many as with HOUSE 0. */
    private static void countsRings() {
        Look.range("20 n", 3, 9, (y, v) -> y.rings(v));
        Look.refuses("20 two are no ring", Due.BEYOND, y -> y.rings(2));
        for (int least = 0; least <= 4; least++) {
            for (int most = least; most <= 4; most++) {
                x = new AlikeTown();
                law(x, least, most);
                long three = 0;
                long four = 0;
                for (int a = 0; a <= 80; a++) {
                    for (int b = 0; b <= 80 && go(0, a, least, most); b++) {
                        if (go(a, b, least, most)) {
                            three += go(b, 0, least, most) ? 1 : 0;
                            for (int c = 0; c <= 80; c++) {
                                four += go(b, c, least, most) && go(c, 0, least, most) ? 1 : 0;
                            }
                        }
                    }
                }
                is("20 rings of 3 by " + least + " to " + most, x.rings(3), 81 * three);
                is("20 rings of 4 by " + least + " to " + most, x.rings(4), 81 * four);
            }
        }
        law(x, 4, 4);
        is("20 rings of 9, all the same", x.rings(9), 81);
        law(x, 0, 4);
        is("20 rings of 9, any", x.rings(9), 150094635296999121L);
    }

    private static boolean go(int a, int b, int least, int most) {
        int alike = 0;
        for (int times = 27; times >= 1; times /= 3) {
            alike += a / times % 3 == b / times % 3 ? 1 : 0;
        }
        return alike >= least && alike <= most;
    }

    // ---- promise 21

    /** "STATE: THE TOWN hasn't one row, or has more than 9 LOTS". */
    private static void countsBefore() {
        for (int rows = 1; rows <= 8; rows++) {
            for (int columns = 1; columns <= 8; columns++) {
                x = new AlikeTown();
                x.town(rows, columns, 0);
                is("21 " + rows + " by " + columns, x.before(), rows > 1 ? Due.STATE : x.rows(columns));
                is("21 told", x.told(3), rows > 1 ? 1 : 0);
            }
        }
        Look.refuses("21 two rows", Due.STATE, AlikeTown::before);
        Look.Setup oneRow = y -> {
            Look.full(y);
            row(y, 0, 0, -1, -1, 0);
            y.rule(0, 1);
        };
        Look.tellsAlone("21 one row", oneRow, ways(2), AlikeTown::before);
        for (int many = 0; many <= 3; many++) {
            int[] houses = {0, -1, -1, -1};
            row(0, java.util.Arrays.copyOf(houses, 1 + many));
            is("21 " + many + " empty", x.before(), x.rows(1 + many) / 81);
        }
        row(0, 0, 13, -1);
        is("21 lawful", x.before(), 32);
        row(0, 0, 0, -1);
        is("21 wrong already", x.before(), 0);
        x.become(0, 50);
        is("21 a church", x.before(), 32);
        row(0, -1, 0, -1);
        x.become(1, 50);
        is("21 about a church", x.before(), 81 * 81);
        row(0, -1, 0, -1);
        x.storm(0, 0);
        is("21 about a blank", x.before(), 36 * 36);
    }

    /** In how many ways n LOTS between two HOUSES 0 can be by THE LAW of one. */
    private static long ways(int n) {
        long[] ways = new long[81];
        ways[0] = 1;
        for (int i = 0; i <= n; i++) {
            long[] nexts = new long[81];
            for (int a = 0; a <= 80; a++) {
                for (int b = 0; b <= 80; b++) {
                    nexts[b] += go(a, b, 1, 1) ? ways[a] : 0;
                }
            }
            ways = nexts;
        }
        return ways[0];
    }

    private static void countsBeforeOfRings() {
        for (int shape = 0; shape <= 2; shape++) {
            for (int columns = 1; columns <= 8; columns++) {
                x = new AlikeTown();
                x.town(1, columns, shape);
                boolean isRing = shape > 0 && columns >= 3;
                is("21 all empty", x.before(), isRing ? x.rings(columns) : x.rows(columns));
                x.build(columns - 1, 0, 77);
                is("21 one is there", x.before(), isRing ? x.rings(columns) / 81 : x.rows(columns) / 81);
            }
        }
        for (int church = 0; church < 4; church++) {
            x = new AlikeTown();
            x.town(1, 4, 1);
            x.build(church, 50, 0);
            is("21 a ring open at a church", x.before(), x.rows(3));
        }
        row(1, 0, -1, -1);
        is("21 closed", x.before(), ways(2));
        x.town(1, 3, 1);
        x.build(0, 0, 0);
        x.build(2, 0, 13);
        long closed = x.before();
        x.town(1, 4, 0);
        x.build(0, 0, 0);
        x.build(2, 0, 13);
        is("21 the last and the first", closed * 32, x.before());
    }

    // ---- promise 22

    private static void drawsRows() {
        Look.Setup allSheets = y -> {
            Look.full(y);
            y.sheet(3, 8, 2);
        };
        Look.range("22 sheet", allSheets, 0, 3, (y, v) -> y.drawn(v));
        Look.refuses("22 missing, nothing is drawn", Due.NONE, y -> y.drawn(3));
        Look.Setup missingAgain = y -> {
            Look.full(y);
            y.sheet(0, 0, 1);
        };
        Look.refuses("22 missing again", missingAgain, Due.NONE, y -> y.drawn(0));
        for (int n : new int[] {0, 1, 2, 63, 64}) {
            for (int bits = 8; bits <= 32; bits *= 2) {
                drawsRow(n, bits);
            }
        }
    }

    private static void drawsRow(int n, int bits) {
        x = new AlikeTown();
        x.sheet(2, bits, n);
        is("22 how many", x.drawn(2), n);
        int z = 1;
        int house = 0;
        List<Integer> due = new ArrayList<>();
        for (int i = 0; i < n; i++) {
            z = z * 1103515245 + 12345;
            house = i == 0 ? (z >>> 8) % 81 : goer(house, (z >>> 8) % 32);
            due.add(house);
        }
        is("22 a draw each", x.count(11), z);
        x.town(8, 8, 0);
        law(x, 0, 4);
        is("22 all are houses", x.builds(2), n);
        for (int i = 0; i < n; i++) {
            is("22 house " + i, x.pull(i), due.get(i));
        }
    }

    private static int goer(int house, int i) {
        int left = i;
        for (int other = 0; other <= 80; other++) {
            if (go(house, other, 1, 1)) {
                if (left == 0) {
                    return other;
                }
                left--;
            }
        }
        return -1;
    }

    /** "of those that go with it by THE LAW": one alone, and all; with the greatest and the least draws. */
    private static void drawsAllThatGo() {
        for (int z : new int[] {MIN, -1, 0, 1, MAX}) {
            for (int most = 0; most <= 4; most += 4) {
                x = new AlikeTown();
                law(x, most == 4 ? 0 : 4, 4);
                x.seed(z);
                x.sheet(0, 8, 2);
                x.drawn(0);
                int first = z * 1103515245 + 12345;
                int second = first * 1103515245 + 12345;
                x.town(1, 2, 0);
                law(x, 0, 4);
                is("22 houses", x.builds(0), 2);
                is("22 the first of z " + z, x.pull(0), (first >>> 8) % 81);
                is("22 the next of z " + z, x.pull(1), most == 4 ? (second >>> 8) % 81 : (first >>> 8) % 81);
            }
        }
    }

    // ---- promises 23 to 25

    private static void blows() {
        Look.range("23 mark", 0, 3, (y, v) -> y.storm(v, 0));
        Look.range("23 sort", 0, 2, (y, v) -> y.storm(0, v));
        Look.refuses("23 blank is no sort", Due.BEYOND, y -> y.storm(3, 3));
        x = new AlikeTown();
        is("23 nothing there", x.storm(0, 0), 0);
        for (int mark = 0; mark < 4; mark++) {
            for (int sort = 0; sort < 3; sort++) {
                blowsOne(mark, sort);
            }
        }
        x = new AlikeTown();
        x.town(8, 8, 0);
        for (int lot = 0; lot < 64; lot++) {
            Due.put(x, lot, lot % 2 == 0 ? 50 : 10 * (lot % 5), 80);
        }
        is("23 all but churches", x.storm(2, 2), 32);
        is("23 all but churches", x.storm(2, 2), 0);
    }

    private static void blowsOne(int mark, int sort) {
        row(0, 0, 40, 80, -1, 40 * sort, 40 * sort);
        x.become(4, 50);
        is("23 took of", x.storm(mark, sort), 2);
        for (int lot = 0; lot < 6; lot++) {
            for (int m = 0; m < 4 && lot != 3; m++) {
                int had = lot < 3 ? lot : sort;
                is("23 mark " + m + " of " + lot, x.ofLot(lot, 3 + m), m == mark && had == sort && lot != 4 ? 3 : had);
            }
        }
        is("23 took of", x.storm(mark, sort), 0);
        is("23 the kinds stay", x.ofLot(4, 1), 5);
        is("23 the empty stay", x.ofLot(3, 0), 0);
    }

    private static void harms() {
        Look.range("24 mark", 0, 3, (y, v) -> y.harm(v, 0));
        Look.range("24 sort", 0, 2, (y, v) -> y.harm(0, v));
        Look.refuses("24 blank is no sort", Due.BEYOND, y -> y.harm(3, 3));
        Look.tellsAlone("24 none", Look::full, 0, y -> y.harm(0, 2));
        Look.tellsAlone("24 one", Look::full, 1, y -> y.harm(0, 0));
        Look.tellsAlone("25 the worst", Look::full, 0, AlikeTown::worst);
        x = new AlikeTown();
        is("24 nothing there", x.harm(3, 2), 0);
        x.town(8, 8, 2);
        law(x, 4, 4);
        x.sheet(0, 8, 64);
        x.builds(0);
        is("24 all pairs", x.harm(0, 0), 128);
        is("24 none has it", x.harm(0, 1), 0);
        is("24 nothing is wrong yet", x.wrong(-1), 0);
        law(x, 0, 3);
        is("24 a storm that puts all right", x.harm(0, 0), 0);
        is("24 what is wrong without it", x.harm(0, 1), 128);
        is("25 the least of those that harm", x.worst(), 1);
        is("24 all are wrong yet", x.wrong(-1), 128);
    }

    /** "3 times the MARK, and the SORT, of that with the greatest HARM; of several the least". */
    private static void tellsTheWorst() {
        x = new AlikeTown();
        is("25 nothing there", x.worst(), 0);
        for (int worst = 0; worst < 12; worst++) {
            int mark = worst / 3;
            int sort = worst % 3;
            int[] times = {27, 9, 3, 1};
            int one = 0;
            int other = 0;
            for (int i = 0; i < 4; i++) {
                one += times[i] * (i == mark ? sort : 0);
                other += times[i] * (i == mark ? sort : 1);
            }
            row(0, one, other);
            is("25 alike in " + worst, x.worst(), worst);
            is("24 its harm", x.harm(mark, sort), 1);
            is("24 another's harm", x.harm((mark + 1) % 4, 0), 0);
        }
        row(0, 2, 41, -1, 0, 26);
        is("25 one and one", x.worst(), 0);
        row(0, 2, 41, -1, 0, 26, -1, 2, 41);
        is("25 two and one", x.worst(), 11);
    }

    // ---- promise 26

    private static void fillsAll() {
        row(0, 0, -1);
        is("26 one", x.fill(), 1);
        is("26 one", x.pull(1), 13);
        x = new AlikeTown();
        x.town(1, 1, 2);
        is("26 one lot", x.fill(), 1);
        is("26 the least house", x.pull(0), 0);
        x.town(8, 8, 0);
        is("26 all lots", x.fill(), 64);
        is("26 all are lawful", x.wrong(-1), 0);
        is("26 no lot", x.fill(), 0);
        for (int lot = 0; lot < 64; lot++) {
            is("26 in turn " + lot, x.pull(lot), (lot / 8 + lot % 8) % 2 == 0 ? 0 : 13);
        }
        row(0, -1, 40, 40, -1);
        is("26 wrong pairs stay", x.fill(), 2);
        is("26 wrong pairs stay", x.wrong(-1), 1);
        is("26 kind and m", x.as(0, 0) * 10 + x.ofLot(3, 1), 0);
        x = new AlikeTown();
        Look.full(x);
        is("26 about a church and a blank", x.fill(), 2);
        is("26 the least for lot 3", x.pull(3), 13);
        is("26 the least for lot 5", x.pull(5), 0);
    }

    /** Only the last of 81 HOUSES does, and only with all of that the LOT ahead can be looked at. */
    private static void fillsByTheLastWay() {
        row(0, -1, -1, 80);
        law(x, 4, 4);
        is("26 the last way", x.fill(), 2);
        is("26 the last house", x.pull(0), 80);
        is("26 the last house", x.pull(1), 80);
        Look.Setup noWay = y -> {
            Look.full(y);
            row(y, 0, 0, -1, 40, -1);
            law(y, 4, 4);
        };
        Look.refuses("26 no way", noWay, Due.NONE, AlikeTown::fill);
        Look.Setup noWayBehind = y -> {
            Look.full(y);
            row(y, 0, -1, 0, -1, 40);
            law(y, 4, 4);
        };
        Look.refuses("26 no way in the last one", noWayBehind, Due.NONE, AlikeTown::fill);
        Look.Setup blank = y -> {
            Look.full(y);
            row(y, 0, 0, -1);
            y.storm(0, 0);
            law(y, 4, 4);
        };
        Look.refuses("26 no way beside a blank", blank, Due.NONE, AlikeTown::fill);
    }

    /**
     * By the LAW of 4 the first LOT of rows 0 and 1 must be like the HOUSE 80 in row 2. For each of the 80 HOUSES
     * ahead in the first LOT: 1 TRY there, 81 in each of the two other LOTS of row 0, which go with 80 alone, and
     * 81 in the first one of row 1; the 81st time the same. Behind it three LOTS are tried up to 80, 80, and last.
     * 80 * 244 + 244 + 162 + last + 1 = 19927 + last.
     */
    private static void triesUpTo(AlikeTown y, int last) {
        y.town(5, 8, 0);
        law(y, 4, 4);
        for (int lot = 0; lot < 40; lot++) {
            y.build(lot, 50, lot == 33 ? last : 80);
        }
        for (int lot : new int[] {0, 2, 5, 8, 18, 21, 32}) {
            y.pull(lot);
        }
        for (int lot : new int[] {3, 6, 16, 19, 22, 33}) {
            y.become(lot, 0);
        }
    }

    /** "20000 at most .. FULL: it would be the 20001st TRY. (Then nothing is filled.)" */
    private static void fillsBy20000Tries() {
        for (int last = 71; last <= 75; last++) {
            x = new AlikeTown();
            triesUpTo(x, last);
            is("26 tries " + (19927 + last), x.fill(), last <= 73 ? 7 : Due.FULL);
            is("26 houses then", x.count(5), last <= 73 ? 40 : 33);
            is("26 the first lot", x.ofLot(0, 0), last <= 73 ? 1 : 0);
            is("26 the last lot", x.ofLot(32, 0), last <= 73 ? 1 : 0);
        }
        x = new AlikeTown();
        triesUpTo(x, 73);
        x.fill();
        int[] lots = {0, 2, 5, 8, 18, 21, 32};
        for (int lot : lots) {
            is("26 filled " + lot, x.pull(lot), lot == 32 ? 73 : 80);
        }
        Look.refuses("26 the 20001st", y -> triesUpTo(y, 74), Due.FULL, AlikeTown::fill);
    }

    /** Each LOT that is given up has taken 81 TRIES: 19926 of them tell that there is no way, 20007 would. */
    private static void findsNoWayBy20000Tries() {
        Look.Setup noWay = y -> {
            triesUpTo(y, 80);
            Due.put(y, 18, 50, 80);
            Due.put(y, 21, 50, 80);
            Due.put(y, 32, 50, 80);
            y.pull(9);
            Due.put(y, 9, 0, 79);
        };
        Look.refuses("26 none by 244 times 81", noWay, Due.NONE, AlikeTown::fill);
        Look.refuses("26 none by 246 times 81", y -> noWayBehind(y, 2), Due.NONE, AlikeTown::fill);
        Look.refuses("26 not by 247 times 81", y -> noWayBehind(y, 3), Due.FULL, AlikeTown::fill);
    }

    /** The same one row further down, and ahead of it LOTS that go with 80 alone: each takes 81 TRIES more. */
    private static void noWayBehind(AlikeTown y, int fixed) {
        y.town(4, 8, 0);
        law(y, 4, 4);
        for (int lot = 0; lot < 32; lot++) {
            y.build(lot, 50, lot == 17 ? 79 : 80);
        }
        for (int lot : new int[] {8, 10, 13, 16}) {
            y.pull(lot);
        }
        for (int lot : new int[] {11, 14, 24, 17}) {
            y.become(lot, 0);
        }
        int[] ahead = {1, 4, 7};
        int[] beside = {2, 5, 6};
        for (int i = 0; i < fixed; i++) {
            y.pull(ahead[i]);
            y.become(beside[i], 0);
        }
    }

    // ---- promise 27

    private static void sumsWorth() {
        x = new AlikeTown();
        Due.text(x, 1, "99");
        is("27 no house", x.worth(), 0);
        x.town(8, 8, 0);
        for (int lot = 0; lot < 64; lot++) {
            x.build(lot, 50, lot);
        }
        is("27 all at most", x.worth(), 64 * 99);
        Due.text(x, 1, "100");
        is("27 each is held", x.worth(), 64 * 99);
        Due.text(x, 1, "0-100");
        is("27 each is held", x.worth(), -64 * 99);
        Due.text(x, 1, "0");
        is("27 nothing", x.worth(), 0);
        row(0, 80);
        is("27 without a text", x.worth(), 0);
        Look.tellsAlone("27 of the full town", Look::full, 2 + 3, AlikeTown::worth);
    }

    // ---- promise 28

    private static void paysTheMost() {
        Look.range("28 what", 0, 1, (y, v) -> y.pays(v));
        Look.tellsAlone("28 the change", Look::full, 12 * 4 + 3 * 0 + 0, y -> y.pays(0) >= 0 ? 48 : 0);
        row(0, 0);
        x.become(0, 30);
        is("28 nothing more", x.pays(0), 1);
        is("28 nothing more", x.pays(1), 0);
        for (int best = 0; best < 12; best++) {
            row(0, best % 3 == 0 ? 40 : 0, -1, best % 3 == 0 ? 40 : 0);
            x.become(0, 31);
            x.become(2, 31);
            String name = "crdv".substring(best / 3, best / 3 + 1);
            Due.text(x, 1, "(" + name + "=" + best % 3 + ")*9");
            is("28 the best", x.pays(0), best);
            is("28 how much", x.pays(1), 9 - 1);
            x.become(0, 32);
            is("28 the other lot", x.pays(0), 24 + best);
            is("28 how much", x.pays(1), 9 - 1);
            x.become(2, 59);
            is("28 not a church", x.pays(0), best);
            is("28 how much", x.pays(1), 9 - 2);
        }
        row(0, 0);
        Due.text(x, 0, "99");
        Due.text(x, 1, "198*!c-99");
        x.become(0, 20);
        is("28 the least loss", x.pays(0), 4);
        is("28 the least loss", x.pays(1), -198);
        Due.text(x, 1, "99-198*(!c|!r|!d|!v)");
        is("28 no way out", x.pays(1), -198);
        Due.text(x, 1, "99-198*!v");
        is("28 the most that can be", x.pays(0), 10);
        is("28 the most that can be", x.pays(1), 0);
        x.become(0, 30);
        is("28 the most that can be", x.pays(1), 198);
        Due.text(x, 1, "198*!(c|r|d|v)-99");
        is("28 the most that is lost", x.pays(1), -198);
        is("28 the least of several", x.pays(0), 1);
    }

    /** "NONE: there is no such CHANGE." */
    private static void paysNothing() {
        Look.Setup churches = y -> {
            Look.full(y);
            for (int lot = 0; lot < 5; lot++) {
                y.become(lot, 50);
            }
        };
        Look.refuses("28 churches", churches, Due.NONE, y -> y.pays(0));
        Look.refuses("28 churches", churches, Due.NONE, y -> y.pays(1));
        Look.refuses("28 beyond ahead of none", churches, Due.BEYOND, y -> y.pays(2));
        Look.Setup empty = y -> {
            Look.full(y);
            y.town(2, 3, 1);
        };
        Look.refuses("28 no houses", empty, Due.NONE, y -> y.pays(0));
        Look.Setup apart = y -> {
            Look.full(y);
            y.rule(0, 1);
            row(y, 0, 0, 0, -1, 0);
        };
        Look.refuses("28 not lawful by one", apart, Due.NONE, y -> y.pays(1));
        Look.Setup tight = y -> {
            Look.full(y);
            row(y, 0, 0, 0);
            law(y, 4, 4);
        };
        Look.refuses("28 lawful now, by none then", tight, Due.NONE, y -> y.pays(0));
        row(0, 0, 4, -1, 0);
        is("28 lawful by one, not by another lot's", x.pays(0), 1);
        x = new AlikeTown();
        x.town(3, 3, 0);
        law(x, 4, 4);
        x.sheet(0, 8, 9);
        x.builds(0);
        is("28 lawful now", x.pays(0), Due.NONE);
        for (int lot = 0; lot < 9; lot++) {
            x.pull(lot);
            Due.put(x, lot, 0, 1);
            is("28 all that is wrong is about lot " + lot, x.pays(0), 12 * lot + 9);
            is("28 its cost", x.pays(1), -10);
            x.pull(8 - lot);
            Due.put(x, 8 - lot, 0, 1);
            is("28 not so of two lots", x.pays(0), lot == 4 ? 12 * 4 + 9 : Due.NONE);
            x.pull(8 - lot);
            Due.put(x, 8 - lot, 0, 0);
            x.pull(lot);
            Due.put(x, lot, 0, 0);
        }
    }

    // ---- promise 29

    private static void livesOneTo200Years() {
        Look.range("29 n", 1, 200, (y, v) -> y.years(v));
        Look.refuses("29 no year", Due.BEYOND, y -> y.years(0));
        for (int n : new int[] {1, 2, 199, 200}) {
            x = new AlikeTown();
            is("29 nothing there", x.years(n), 0);
            is("29 year", x.count(6), n);
            int z = 1;
            for (int i = 0; i < 3 * n; i++) {
                z = z * 1103515245 + 12345;
            }
            is("29 three draws each", x.count(11), z);
        }
    }

    /** "a rest by how many LOTS there are, by 4, by 3: a LOT, a MARK, a SORT": in the one LOT, and in the last of 64. */
    private static void changesByDraws() {
        for (int lots = 1; lots <= 64; lots += 63) {
            int z = 1;
            for (int i = 0; i < 12; i++) {
                int first = z * 1103515245 + 12345;
                int second = first * 1103515245 + 12345;
                int third = second * 1103515245 + 12345;
                int lot = (first >>> 8) % lots;
                int mark = (second >>> 8) % 4;
                int sort = (third >>> 8) % 3;
                for (int had = 0; had < 3; had++) {
                    x = new AlikeTown();
                    x.town(lots == 1 ? 1 : 8, lots == 1 ? 1 : 8, 0);
                    x.build(lot, 0, 40 * had);
                    x.seed(z);
                    is("29 changed", x.years(1), had == sort ? 0 : 1);
                    is("29 spent", x.count(7), had == sort ? 0 : 10);
                    is("29 the mark", x.ofLot(lot, 3 + mark), sort);
                    is("29 z", x.count(11), third);
                }
                z = third;
            }
        }
        x = new AlikeTown();
        x.town(1, 1, 0);
        x.build(0, 50, 0);
        is("29 a church", x.years(200), 0);
        is("29 nothing is spent", x.count(7), 0);
        row(0, 0, 0);
        law(x, 4, 4);
        is("29 never lawful behind it", x.years(200), 0);
        row(0, 0, 1);
        law(x, 4, 4);
        is("29 lawful once, and then no more", x.years(200), 1);
        is("29 lawful then", x.wrong(-1), 0);
        is("29 spent", x.count(7), 10);
    }

    /** A year is a paint() of what is drawn, which stays if THE TOWN is LAWFUL behind it. */
    private static void livesYearByYear() {
        for (int seed = 0; seed < 8; seed++) {
            AlikeTown plain = new AlikeTown();
            x = new AlikeTown();
            livesIn(x, seed);
            livesIn(plain, seed);
            int z = seed;
            int changed = 0;
            for (int year = 0; year < 60; year++) {
                int first = z * 1103515245 + 12345;
                int second = first * 1103515245 + 12345;
                z = second * 1103515245 + 12345;
                plain.image();
                boolean isPainted = plain.paint((first >>> 8) % 6, (second >>> 8) % 4, (z >>> 8) % 3) >= 0;
                boolean stays = isPainted && plain.wrong(-1) == 0;
                if (isPainted && !stays) {
                    plain.restore();
                }
                changed += stays ? 1 : 0;
                is("29 changed in year " + year, x.years(1), stays ? 1 : 0);
                is("29 spent", x.count(7), plain.count(7));
            }
            Due.holds("29 changed often", changed > 5);
            AlikeTown together = new AlikeTown();
            livesIn(together, seed);
            is("29 so many of 60 years", together.years(60), changed);
            for (int lot = 0; lot < 6; lot++) {
                is("29 house in " + lot, x.pull(lot), plain.pull(lot));
            }
        }
    }

    private static void livesIn(AlikeTown y, int seed) {
        y.seed(seed);
        y.town(2, 3, 1);
        law(y, 1, 2);
        int[] houses = {0, 13, seed % 4 == 2 ? 1 : -1, -1, 17, 80};
        for (int lot = 0; lot < 6; lot++) {
            if (houses[lot] >= 0) {
                Due.put(y, lot, 11 * lot + 3, houses[lot]);
            }
        }
        is("29 wrong at first", y.wrong(-1), seed % 4 == 2 ? 1 : 0);
        if (seed % 2 == 1) {
            y.become(5, 0);
            y.build(3, 3, 22);
        }
    }
}
