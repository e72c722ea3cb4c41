/** Each promise of the document, with answers worked out by hand from its words. */
public final class PromisesTest {
    private static final int MIN = Integer.MIN_VALUE;
    private static final int MAX = Integer.MAX_VALUE;

    private static AlikeTown x;

    public static void main(String[] args) {
        startsEmpty();
        laysTowns();
        joinsLots();
        setsTheLaw();
        builds();
        pulls();
        tellsOfLots();
        becomes();
        answersAsKinds();
        paints();
        countsAlike();
        tellsWhatMayStand();
        tellsWhatIsWrong();
        feeds();
        readsTexts();
        findsFaults();
        worksOutTexts();
        givesLaws();
        wishes();
        steps();
        rights();
        countsRowsAndRings();
        countsBefore();
        drawsRows();
        storms();
        tellsHarm();
        fills();
        fillsNotAtAll();
        tellsWorth();
        tellsWhatPays();
        livesYears();
        seeds();
        speaks();
        traces();
        keepsSheets();
        movesNumbers();
        buildsSheets();
        judgesSheets();
        keepsImages();
        checksWhatWaits();
        counts();
        tellsErrors();
        Due.end("PromisesTest");
    }

    private static void is(String what, long got, long want) {
        Due.is(what, got, want);
    }

    private static void fresh() {
        x = new AlikeTown();
    }

    /** A row of LOTS with HOUSES, whatever THE LAW says. */
    private static void row(int shape, int... houses) {
        fresh();
        x.town(1, houses.length, shape);
        for (int i = 0; i < houses.length; i++) {
            if (houses[i] >= 0) {
                Due.put(x, i, 0, houses[i]);
            }
        }
    }

    private static void law(int least, int most) {
        x.rule(0, 0);
        x.rule(1, most);
        x.rule(0, least);
    }

    private static void startsEmpty() {
        fresh();
        long[] first = {1, 4, 0, 1, 1, 0, 0, 0, 0, 0, 0, 1};
        for (int i = 0; i < first.length; i++) {
            is("1 count " + i, x.count(i), first[i]);
        }
        for (int lot = 0; lot < 4; lot++) {
            is("1 ofLot " + lot, x.ofLot(lot, 0), 0);
        }
        is("1 judge", x.judge(0), Due.NONE);
        is("1 told", x.told(2), 1);
        is("1 told", x.told(1), 0);
    }

    private static void laysTowns() {
        fresh();
        is("2 town", x.town(8, 8, 2), 64);
        is("2 town", x.town(1, 1, 0), 1);
        is("2 town", x.town(3, 5, 1), 15);
        x.build(0, 0, 0);
        x.rule(1, 2);
        int[][] beyond = {{0, 1, 0}, {9, 1, 0}, {1, 0, 0}, {1, 9, 0}, {1, 1, -1}, {1, 1, 3}, {MIN, 1, 0}, {65536, 65536, 0}};
        for (int[] b : beyond) {
            is("2 town beyond", x.town(b[0], b[1], b[2]), Due.BEYOND);
        }
        is("2 stays", x.count(0) * 1000 + x.count(1) * 100 + x.count(2) * 10 + x.count(5), 3511);
        is("2 same again", x.town(3, 5, 1), 15);
        is("2 empty", x.count(5), 0);
        is("2 law stays", x.count(4), 2);
    }

    private static void joinsLots() {
        near("2 board", 3, 3, 0, 0, 1, 3);
        near("2 ring", 3, 3, 1, 0, 1, 2, 3);
        near("2 torus", 3, 3, 2, 0, 1, 2, 3, 6);
        near("2 torus middle", 3, 3, 2, 4, 1, 3, 5, 7);
        near("2 torus corner", 3, 4, 2, 11, 3, 7, 8, 10);
        near("2 ring of 2 columns", 3, 2, 1, 0, 1, 2);
        near("2 torus of 2 rows", 2, 3, 2, 0, 1, 2, 3);
        near("2 torus of a column", 4, 1, 2, 0, 1, 3);
        near("2 ring of a column", 4, 1, 1, 0, 1);
        near("2 one lot", 1, 1, 2, 0);
        row(1, 0, 0);
        is("2 one pair of two lots", x.wrong(-1), 1);
    }

    /** Those SIDE BY SIDE with a LOT: where a HOUSE in it leaves fewer that MAY STAND. */
    private static void near(String what, int rows, int columns, int shape, int lot, int... sides) {
        fresh();
        int lots = x.town(rows, columns, shape);
        x.build(lot, 0, 0);
        for (int other = 0; other < lots; other++) {
            boolean isSide = false;
            for (int side : sides) {
                isSide |= side == other;
            }
            is(what + " " + other, x.may(other, -1), isSide ? 32 : 81);
        }
    }

    private static void setsTheLaw() {
        fresh();
        is("3 most", x.rule(1, 4), 1);
        is("3 least", x.rule(0, 4), 1);
        is("3 most", x.rule(1, 3), Due.STATE);
        is("3 least", x.rule(0, 0), 4);
        is("3 most", x.rule(1, 0), 4);
        is("3 least", x.rule(0, 1), Due.STATE);
        is("3 beyond", x.rule(0, 5), Due.BEYOND);
        is("3 beyond", x.rule(1, -1), Due.BEYOND);
        is("3 beyond", x.rule(2, 0), Due.BEYOND);
        is("3 beyond", x.rule(-1, 0), Due.BEYOND);
        is("3 least", x.count(3), 0);
        is("3 most", x.count(4), 0);
    }

    private static void builds() {
        fresh();
        is("4 build", x.build(0, 9, 0), 1);
        is("4 build", x.build(3, 69, 80), 2);
        is("4 alike in one", x.build(1, 0, 13), 3);
        is("4 not empty", x.build(1, 50, 13), Due.STATE);
        is("4 alike in none", x.build(2, 0, 40), Due.KIND);
        is("4 alike in two", x.build(2, 0, 12), Due.KIND);
        is("4 alike with one of two", x.build(2, 0, 26), Due.KIND);
        is("4 a church", x.build(2, 50, 13), 4);
        int[][] beyond = {{4, 0, 0}, {-1, 0, 0}, {0, -1, 0}, {0, 70, 0}, {0, 0, -1}, {0, 0, 81}, {MAX, 0, 0}, {0, MIN, 0}, {0, 0, MIN}};
        for (int[] b : beyond) {
            is("4 beyond", x.build(b[0], b[1], b[2]), Due.BEYOND);
        }
        is("4 m", x.ofLot(0, 2), 9);
        is("4 kind", x.ofLot(3, 1), 6);
        row(0, -1, 0);
        Due.put(x, 1, 50, 0);
        x.pull(1);
        x.build(1, 50, 0);
        is("4 beside a church", x.build(0, 0, 80), 2);
        row(0, 0, 0, -1);
        is("4 only its own pairs", x.build(2, 0, 13), 3);
        row(0, 0, -1);
        law(1, 2);
        is("4 at most", x.build(1, 0, 12), 2);
        x.pull(1);
        is("4 at least", x.build(1, 0, 40), Due.KIND);
        is("4 above most", x.build(1, 0, 9), Due.KIND);
    }

    private static void pulls() {
        row(0, 0, 77, 13, -1);
        is("5 pull", x.pull(1), 77);
        is("5 pull", x.pull(1), Due.NONE);
        is("5 pull", x.pull(3), Due.NONE);
        is("5 pull", x.pull(4), Due.BEYOND);
        is("5 pull", x.pull(-1), Due.BEYOND);
        x.storm(1, 1);
        is("5 a blank roof", x.pull(2), 4);
        is("5 houses", x.count(5), 1);
    }

    private static void tellsOfLots() {
        fresh();
        x.build(0, 38, 64);
        x.build(2, 5, 0);
        long[] of = {1, 3, 8, 2, 1, 0, 1, 8, 8, 8, 8, 0};
        for (int i = 0; i < of.length; i++) {
            is("6 ofLot 0 " + i, x.ofLot(0, i), of[i]);
        }
        is("6 empty", x.ofLot(1, 0), 0);
        for (int what = 1; what < 12; what++) {
            is("6 none", x.ofLot(1, what), Due.NONE);
        }
        is("6 beyond", x.ofLot(1, 12), Due.BEYOND);
        is("6 beyond", x.ofLot(1, -1), Due.BEYOND);
        is("6 beyond", x.ofLot(4, 0), Due.BEYOND);
        is("6 beyond", x.ofLot(-1, 0), Due.BEYOND);
        x.storm(2, 0);
        is("6 blank", x.ofLot(0, 5), 3);
        costs(15, 7, 30, 5, 12, -1, 2);
        Due.text(x, 0, "k*10+m");
        long[][] due = {{5, 2, 10, 5, 7, -1, 2}, {15, 7, 30, 5, 12, -1, 2}, {25, 12, 50, 5, 17, -1, 2}, {35, 17, 70, 5, 22, -1, 2}};
        for (int mark = 0; mark < 4; mark++) {
            for (int kind = 0; kind < 7; kind++) {
                x.become(2, 10 * kind + 5);
                is("6 cost " + mark + " of kind " + kind, x.ofLot(2, 7 + mark), due[mark][kind]);
            }
        }
        Due.text(x, 0, "999");
        costs(99, 49, 198, 5, 54, -1, 2);
        Due.text(x, 0, "0-9");
        costs(0, 0, 0, 5, 5, -1, 2);
        x.become(2, 62);
        is("6 0 at least", x.ofLot(2, 7), 0);
        Due.text(x, 1, "c*8+r*4+d*2+v");
        is("6 worth", x.ofLot(0, 11), 16 + 4 + 6 + 1);
    }

    private static void costs(long... due) {
        for (int kind = 0; kind < 7; kind++) {
            x.become(2, 10 * kind + 5);
            is("6 cost of kind " + kind, x.ofLot(2, 7), due[kind]);
        }
    }

    private static void becomes() {
        row(0, 0, 40, -1);
        is("7 become", x.become(0, 47), 0);
        is("7 become", x.become(0, 59), 4);
        is("7 m", x.ofLot(0, 2), 9);
        is("7 a church isn't bound", x.wrong(-1), 0);
        is("7 become", x.become(0, 69), 5);
        is("7 needn't be lawful", x.wrong(-1), 1);
        is("7 none", x.become(2, 0), Due.NONE);
        is("7 beyond", x.become(3, 0), Due.BEYOND);
        is("7 beyond", x.become(-1, 0), Due.BEYOND);
        is("7 beyond", x.become(2, 70), Due.BEYOND);
        is("7 beyond", x.become(0, -1), Due.BEYOND);
        is("7 house stays", x.pull(0), 0);
    }

    private static void answersAsKinds() {
        String[] under = {"0", "01", "02", "03", "014", "025", "036"};
        row(0, 0, -1);
        for (int kind = 0; kind < 7; kind++) {
            x.become(0, 10 * kind + 7);
            for (int as = 0; as < 7; as++) {
                is("8 " + kind + " as " + as, x.as(0, as), under[kind].indexOf('0' + as) >= 0 ? 7 : Due.KIND);
            }
        }
        is("8 none", x.as(1, 0), Due.NONE);
        is("8 beyond", x.as(1, 7), Due.BEYOND);
        is("8 beyond", x.as(1, -1), Due.BEYOND);
        is("8 beyond", x.as(2, 0), Due.BEYOND);
        is("8 beyond", x.as(-1, 0), Due.BEYOND);
    }

    private static void paints() {
        row(0, 0, 13, -1, 80);
        is("9 paint", x.paint(0, 1, 2), 10);
        is("9 again", x.paint(0, 1, 2), Due.STATE);
        is("9 alike in two", x.paint(0, 2, 1), Due.KIND);
        is("9 alike in none", x.paint(0, 0, 1), Due.KIND);
        is("9 stays", x.ofLot(0, 5), 0);
        x.become(3, 24);
        is("9 held", x.paint(3, 0, 1), 38);
        is("9 spent", x.count(7), 38);
        x.become(3, 50);
        is("9 a church", x.paint(3, 0, 2), Due.STATE);
        is("9 none", x.paint(2, 0, 0), Due.NONE);
        int[][] beyond = {{4, 0, 0}, {-1, 0, 0}, {2, 4, 0}, {2, -1, 0}, {2, 0, 3}, {2, 0, -1}};
        for (int[] b : beyond) {
            is("9 beyond", x.paint(b[0], b[1], b[2]), Due.BEYOND);
        }
        row(0, 0, 40, -1, 0);
        is("9 only its own pairs", x.paint(3, 0, 1), 10);
        x.storm(0, 1);
        is("9 a blank mark gets a sort", x.paint(3, 0, 0), 20);
        row(0, 0);
        Due.text(x, 0, "30");
        is("9 the text", x.paint(0, 3, 2), 30);
    }

    private static void countsAlike() {
        row(0, 0, 40, 13, 80, -1);
        is("10 none alike", x.alike(0, 1), 0);
        is("10 one alike", x.alike(0, 2), 1);
        is("10 three alike", x.alike(1, 2), 3);
        is("10 itself", x.alike(3, 3), 4);
        x.storm(3, 1);
        is("10 blank is like none", x.alike(1, 2), 2);
        is("10 blank is not like itself", x.alike(1, 1), 3);
        is("10 none", x.alike(0, 4), Due.NONE);
        is("10 none", x.alike(4, 0), Due.NONE);
        is("10 beyond", x.alike(4, 5), Due.BEYOND);
        is("10 beyond", x.alike(-1, 4), Due.BEYOND);
    }

    private static void tellsWhatMayStand() {
        fresh();
        is("11 any", x.may(0, -1), 81);
        is("11 any", x.may(0, 0), 0);
        is("11 any", x.may(0, 80), 80);
        is("11 none", x.may(0, 81), Due.NONE);
        row(0, 0, -1, 40, 0);
        is("11 how many", x.may(1, -1), 12);
        is("11 the first", x.may(1, 0), 17);
        is("11 the last", x.may(1, 11), 75);
        is("11 none", x.may(1, 12), Due.NONE);
        is("11 none", x.may(1, MAX), Due.NONE);
        is("11 beyond", x.may(1, -2), Due.BEYOND);
        is("11 beyond", x.may(4, 0), Due.BEYOND);
        is("11 beyond", x.may(-1, 0), Due.BEYOND);
        is("11 as if it were empty", x.may(3, -1), 32);
        x.become(2, 50);
        is("11 beside a church", x.may(1, -1), 32);
        is("11 the first", x.may(1, 0), 13);
        is("11 the second", x.may(1, 1), 14);
        x.become(0, 50);
        is("11 of kind house in place of a church", x.may(3, -1), 81);
        x.become(0, 0);
        x.storm(0, 0);
        is("11 beside a blank", x.may(1, -1), 3 * 12);
    }

    private static void tellsWhatIsWrong() {
        fresh();
        x.town(2, 3, 1);
        for (int lot = 0; lot < 6; lot++) {
            Due.put(x, lot, 0, 0);
        }
        int[] pairs = {1, 2, 3, 64 + 2, 64 + 4, 2 * 64 + 5, 3 * 64 + 4, 3 * 64 + 5, 4 * 64 + 5};
        is("12 how many", x.wrong(-1), pairs.length);
        for (int i = 0; i < pairs.length; i++) {
            is("12 pair " + i, x.wrong(i), pairs[i]);
        }
        is("12 none", x.wrong(9), Due.NONE);
        is("12 none", x.wrong(MAX), Due.NONE);
        is("12 beyond", x.wrong(-2), Due.BEYOND);
        x.become(0, 50);
        is("12 without a church", x.wrong(-1), 6);
        law(0, 4);
        is("12 nothing", x.wrong(-1), 0);
    }

    private static void feeds() {
        fresh();
        is("13 feed", x.feed(0x3130393939L, 2), 2);
        is("13 beyond", x.feed(0, 0), Due.BEYOND);
        is("13 beyond", x.feed(0, 9), Due.BEYOND);
        is("13 the lowest bytes, the lowest first", x.feed(0x39393939342fL, 2), 4);
        is("13 99/4", x.text(1), 1);
        is("13 99/4", x.law(1, 0, 0, 0, 0), 24);
        for (int i = 1; i <= 6; i++) {
            is("13 feed", x.feed(0x3131313131313131L, 8), 8 * i);
        }
        is("13 full", x.feed(0, 3), Due.FULL);
        is("13 bytes", x.count(8), 48);
        is("13 beyond ahead of full", x.feed(0, 9), Due.BEYOND);
        is("13 feed", x.feed(-1L, 2), 50);
        is("13 full", x.feed(0, 1), Due.FULL);
    }

    private static void readsTexts() {
        fresh();
        is("14 text", Due.text(x, 0, "m*m"), 1);
        is("14 the tape is empty", x.count(8), 0);
        is("14 cost", x.law(0, 0, 4, 0, 0), 16);
        is("14 fault", Due.text(x, 0, "m*c"), -12);
        is("14 the tape is empty", x.count(8), 0);
        is("14 the one ahead stays", x.law(0, 0, 4, 0, 0), 16);
        x.feed('k', 1);
        is("14 beyond", x.text(2), Due.BEYOND);
        is("14 beyond", x.text(-1), Due.BEYOND);
        is("14 the tape stays", x.count(8), 1);
        is("14 in place", x.text(0), 1);
        is("14 cost", x.law(0, 3, 4, 0, 0), 3);
        is("14 told", x.told(1), 2);
        is("14 worth without a text", x.law(1, 3, 4, 5, 6), 0);
    }

    private static void fault(String text, int use, int place) {
        fresh();
        is("14 " + text, Due.text(x, use, text), place < 0 ? 1 : -10 - place);
    }

    private static void findsFaults() {
        fault("", 0, 0);
        fault("k", 1, 0);
        fault("c", 0, 0);
        fault("c+r-d*v", 1, -1);
        fault("1234", 0, -1);
        fault("12345", 0, 4);
        fault("1+", 0, 2);
        fault("+1", 0, 0);
        fault("k k", 0, 1);
        fault("km", 0, 1);
        fault("k1", 0, 1);
        fault("1k", 0, 1);
        fault("1<2<3", 0, 3);
        fault("1=2>3", 0, 3);
        fault("1<2&3<4|5=6", 0, -1);
        fault("(1<2)<3", 0, -1);
        fault("1<2|", 0, 4);
        fault("(1", 0, 2);
        fault("1)", 0, 1);
        fault("()", 0, 1);
        fault("(1)2", 0, 3);
        fault("(1)(2)", 0, 3);
        fault("!!!!!1", 0, -1);
        fault("!!!!!!1", 0, 5);
        fault("!!!!!(1)", 0, 5);
        fault("(((((k)))))", 0, -1);
        fault("((((((k", 0, 5);
        fault("!(!(!k))+!!!!!k", 0, -1);
        fault("(!(!(!k", 0, 5);
        fault("!(!k)*!!!!!!k", 0, 11);
        fault("(((((k)))))+(((((k)))))*!!!!!m", 0, -1);
        fault("k\u00ff", 0, 1);
        fault("k\u0000", 0, 1);
        fault("k,m", 0, 1);
        fault("1/2%3*4", 1, -1);
        fault("1!2", 1, 1);
        fault("!", 1, 1);
        fault("1&&2", 1, 2);
    }

    private static void value(String text, long due) {
        fresh();
        Due.text(x, 1, text);
        is("15 " + text, x.law(1, 2, -3, 5, 7), due);
    }

    private static void worksOutTexts() {
        value("1+2*3", 7);
        value("(1+2)*3", 9);
        value("10-2-3", 5);
        value("50/7/2", 3);
        value("0-7/2", -3);
        value("r*3/2", -4);
        value("r%2", -1);
        value("5%r", 2);
        value("5/0", 0);
        value("5%0", 0);
        value("c*d%4", 2);
        value("2|0", 1);
        value("0|0", 0);
        value("3&2", 1);
        value("3&0", 0);
        value("0&3", 0);
        value("3&1", 1);
        value("1&3", 1);
        value("(3|0)*c", 2);
        value("(2&3)*(1<2)", 1);
        value("1|0&0", 1);
        value("1&0|2", 1);
        value("1|1+1", 1);
        value("r<c", 1);
        value("c<c", 0);
        value("c>r", 1);
        value("c>c", 0);
        value("c=2", 1);
        value("c=r", 0);
        value("1+1=2", 1);
        value("!0", 1);
        value("!r", 0);
        value("!!r", 1);
        value("!0+4", 5);
        value("!c*3", 0);
        value("!(c=2)", 0);
        value("0007", 7);
        value("9999*9999*9999>0", 0);
        value("9999", 99);
        value("0-9999", -99);
        value("d*10+v", 57);
        value("r", -3);
    }

    private static void givesLaws() {
        fresh();
        is("15 cost without a text", x.law(0, 3, 5, 0, 0), 15);
        is("15 worth without a text", x.law(1, 3, 5, 0, 0), 0);
        holdsCostWithoutText();
        Due.text(x, 0, "k*100+m");
        is("15 held", x.law(0, 1, 0, 0, 0), 99);
        is("15 held", x.law(0, -1, 0, 0, 0), 0);
        is("15 cost", x.law(0, 0, 98, 7, 7), 98);
        is("15 beyond", x.law(2, 0, 0, 0, 0), Due.BEYOND);
        is("15 beyond", x.law(-1, 0, 0, 0, 0), Due.BEYOND);
        Due.text(x, 0, "k/m");
        is("15 wraps", x.law(0, MIN, -1, 0, 0), 0);
        Due.text(x, 0, "k%m");
        is("15 wraps", x.law(0, MIN, -1, 0, 0), 0);
        Due.text(x, 0, "(k+m<0)*7");
        is("15 wraps", x.law(0, MAX, 1, 0, 0), 7);
    }

    private static void costWithoutText(int m, int due) {
        is("15 cost without a text of m " + m, x.law(0, 0, m, 0, 0), due);
        is("15 cost without a text of m " + m + ", k is nothing", x.law(0, MAX, m, MIN, MAX), due);
    }

    private static void holdsCostWithoutText() {
        costWithoutText(88, 98);
        costWithoutText(89, 99);
        costWithoutText(90, 99);
        costWithoutText(394413492, 99);
        costWithoutText(MAX - 10, 99);
        costWithoutText(-9, 1);
        costWithoutText(-10, 0);
        costWithoutText(-11, 0);
        costWithoutText(-394413492, 0);
        costWithoutText(-1000000010, 0);
        costWithoutText(-1000000011, 0);
        costWithoutText(MIN, 0);
        // Ints of TEXTS wrap, so 10+m does too: below 0 here, as the TEXT "10+m" gives it.
        costWithoutText(MAX - 9, 0);
        costWithoutText(MAX, 0);
        is("15 worth without a text", x.law(1, MAX, MAX, MAX, MAX), 0);
        is("15 worth without a text", x.law(1, MIN, MIN, MIN, MIN), 0);
        Due.text(x, 0, "10+m");
        costWithoutText(394413492, 99);
        costWithoutText(MAX, 0);
    }

    private static void wishes() {
        row(0, 0, 13);
        x.become(1, 32);
        is("16 it is so", x.wish(0, 0, 0, 0), 0);
        is("16 it is so", x.wish(0, 0, 0, 1), 0);
        is("16 one", x.wish(0, 1, 2, 0), 1);
        is("16 one", x.wish(0, 1, 2, 1), 10);
        is("16 two", x.wish(0, 1, 1, 0), 2);
        is("16 the other one is cheap", x.wish(0, 1, 1, 1), 12);
        is("16 nothing is changed", x.ofLot(0, 4), 0);
        is("16 nothing is spent", x.count(7), 0);
        x.become(1, 50);
        is("16 a church", x.wish(1, 0, 1, 0), Due.NONE);
        is("16 a church", x.wish(1, 0, 0, 0), 0);
        is("16 beside a church", x.wish(0, 1, 1, 0), 1);
        int[][] beyond = {{2, 0, 0, 0}, {-1, 0, 0, 0}, {0, 4, 0, 0}, {0, -1, 0, 0}, {0, 0, 3, 0}, {0, 0, -1, 0}, {0, 0, 0, 2}, {0, 0, 0, -1}};
        for (int[] b : beyond) {
            is("16 beyond", x.wish(b[0], b[1], b[2], b[3]), Due.BEYOND);
        }
        row(0, 0, 0, 0, 0, -1);
        law(4, 4);
        is("16 four", x.wish(3, 2, 1, 0), 4);
        is("16 four", x.wish(3, 2, 1, 1), 40);
        is("16 none", x.wish(4, 0, 0, 0), Due.NONE);
        x.build(4, 0, 0);
        is("16 not by four", x.wish(3, 2, 1, 0), Due.NONE);
        is("16 not by four", x.wish(3, 2, 1, 1), Due.NONE);
        row(0, 0, 9, -1, 0, 0);
        law(4, 4);
        is("16 the others too", x.wish(0, 1, 0, 0), 1);
        is("16 the others too", x.wish(0, 1, 1, 0), 1);
        is("16 the mark is not changed otherwise", x.wish(0, 1, 2, 0), 2);
        x.storm(0, 0);
        is("16 blank", x.wish(3, 0, 0, 0), Due.NONE);
        x.pull(0);
        is("16 blank", x.wish(3, 0, 0, 0), 2);
    }

    private static void steps() {
        row(0, 0, 13, -1);
        is("17 it is so", x.steps(0, 0, 0), 0);
        is("17 one", x.steps(0, 1, 2), 1);
        is("17 two", x.steps(0, 1, 1), 2);
        is("17 nothing is changed", x.ofLot(0, 4) + x.ofLot(1, 4), 1);
        is("17 none", x.steps(2, 0, 0), Due.NONE);
        is("17 beyond", x.steps(3, 0, 0), Due.BEYOND);
        is("17 beyond", x.steps(0, 4, 0), Due.BEYOND);
        is("17 beyond", x.steps(0, -1, 0), Due.BEYOND);
        is("17 beyond", x.steps(0, 0, -1), Due.BEYOND);
        is("17 beyond", x.steps(0, 0, 3), Due.BEYOND);
        x.become(0, 50);
        is("17 a church", x.steps(0, 0, 1), Due.NONE);
        is("17 a church", x.steps(0, 0, 0), 0);
        is("17 beside a church", x.steps(1, 0, 1), 1);
        x.become(0, 0);
        x.rule(1, 4);
        x.rule(0, 2);
        is("17 state", x.steps(0, 0, 0), Due.STATE);
        is("17 empty is ahead of state", x.steps(2, 0, 0), Due.NONE);
        row(0, 0, 0);
        law(4, 4);
        is("17 not lawful throughout", x.steps(0, 0, 1), Due.NONE);
        is("17 but by a wish", x.wish(0, 0, 1, 0), 2);
        row(0, 13, 0, 13);
        is("17 three", x.steps(1, 1, 1), 3);
        is("17 nothing is changed", x.ofLot(0, 4) + x.ofLot(1, 4) + x.ofLot(2, 4), 2);
        fresh();
        x.town(2, 3, 0);
        x.build(1, 0, 0);
        x.build(0, 0, 13);
        x.build(2, 0, 13);
        x.build(4, 0, 13);
        is("17 not by three", x.steps(1, 1, 1), Due.NONE);
        is("17 but by a wish", x.wish(1, 1, 1, 0), 2);
        row(0, 13, 0, -1, 13);
        is("17 those side by side alone", x.steps(1, 1, 1), 2);
        row(0, 0, 13);
        is("17 colour", x.steps(0, 0, 1), Due.NONE);
        law(1, 2);
        is("17 with room", x.steps(0, 0, 1), 2);
    }

    private static void rights() {
        row(0, 0, 13, 26);
        is("18 lawful", x.right(), 0);
        row(0, 0, 0, -1);
        is("18 three", x.right(), 3);
        law(2, 3);
        is("18 one", x.right(), 1);
        row(0, 0, 40, 0);
        law(4, 4);
        is("18 four", x.right(), 4);
        x.become(1, 50);
        is("18 a church", x.right(), 0);
        x.become(1, 0);
        x.become(0, 50);
        is("18 a church", x.right(), 4);
        row(0, 0, 40, 80);
        law(4, 4);
        is("18 not by four", x.right(), Due.NONE);
        is("18 nothing is changed", x.judge(0) == Due.NONE ? x.pull(0) + 100 * x.pull(1) : -1, 4000);
    }

    private static void countsRowsAndRings() {
        fresh();
        is("19 rows", x.rows(1), 81);
        is("19 rows", x.rows(3), 81L * 32 * 32);
        is("19 beyond", x.rows(0), Due.BEYOND);
        is("19 beyond", x.rows(10), Due.BEYOND);
        is("19 beyond", x.rows(MIN), Due.BEYOND);
        is("20 rings", x.rings(3), 33696);
        is("20 beyond", x.rings(2), Due.BEYOND);
        is("20 beyond", x.rings(10), Due.BEYOND);
        law(4, 4);
        is("19 all the same", x.rows(9), 81);
        is("20 all the same", x.rings(9), 81);
        law(3, 4);
        is("19 one may differ", x.rows(4), 81L * 9 * 9 * 9);
        law(0, 4);
        is("19 any", x.rows(9), 150094635296999121L);
        is("20 any", x.rings(9), 150094635296999121L);
        law(0, 0);
        is("19 none alike", x.rows(2), 81 * 16);
        is("20 none alike", x.rings(3), 81 * 16);
        is("20 none alike", x.rings(4), 18 * 18 * 18 * 18);
    }

    private static void countsBefore() {
        fresh();
        x.town(1, 8, 0);
        is("21 all empty", x.before(), 81L * 32 * 32 * 32 * 32 * 32 * 32 * 32);
        x.town(1, 8, 1);
        is("21 a ring", x.before(), x.rings(8));
        x.town(1, 3, 2);
        is("21 a ring of three", x.before(), 33696);
        x.town(1, 2, 1);
        is("21 two in a ring are no ring", x.before(), 81 * 32);
        x.town(1, 1, 1);
        is("21 one", x.before(), 81);
        row(0, 0, -1, 40);
        is("21 between two", x.before(), 12);
        row(1, 0, -1, 40);
        is("21 a wrong pair", x.before(), 0);
        x.become(0, 50);
        is("21 a church", x.before(), 32);
        row(0, 0, 13);
        is("21 nothing is empty", x.before(), 1);
        row(0, 0, 0, -1, -1);
        is("21 a wrong pair", x.before(), 0);
        row(1, -1, -1, 0, -1, -1);
        is("21 a ring round a house", x.before() * 81, x.rings(5));
        x.town(2, 1, 0);
        is("21 state", x.before(), Due.STATE);
        x.town(8, 8, 0);
        is("21 state", x.before(), Due.STATE);
    }

    private static void drawsRows() {
        fresh();
        x.sheet(0, 8, 1);
        is("22 one", x.drawn(0), 1);
        is("22 z", x.count(11), 1103527590);
        x.builds(0);
        is("22 the first", x.pull(0), 4310654 % 81);
        x.sheet(1, 16, 64);
        law(4, 4);
        is("22 the same throughout", x.drawn(1), 64);
        x.town(8, 8, 2);
        is("22 the same throughout", x.builds(1), 64);
        int z = x.seed(7);
        int due = 1103527590;
        for (int i = 0; i < 64; i++) {
            due = due * 1103515245 + 12345;
        }
        is("22 a draw each", z, due);
        x.sheet(2, 32, 0);
        is("22 no numbers", x.drawn(2), 0);
        is("22 nothing is drawn", x.count(11), 7);
        is("22 missing", x.drawn(3), Due.NONE);
        is("22 beyond", x.drawn(4), Due.BEYOND);
        is("22 beyond", x.drawn(-1), Due.BEYOND);
        drawsTheNext();
    }

    private static void drawsTheNext() {
        fresh();
        x.sheet(0, 32, 2);
        x.drawn(0);
        int second = (1103527590 * 1103515245 + 12345) >>> 8;
        x.build(0, 0, 77);
        is("22 each next goes with it", x.judge(0), 1);
        int due = x.may(1, second % 32);
        x.build(1, 0, due);
        is("22 each next in order", x.judge(0), 2);
    }

    private static void storms() {
        row(0, 0, 13, 26, -1);
        x.become(2, 50);
        is("23 storm", x.storm(0, 0), 2);
        is("23 again", x.storm(0, 0), 0);
        is("23 blank", x.ofLot(0, 3), 3);
        is("23 a church", x.ofLot(2, 3), 0);
        is("23 the other marks stay", x.ofLot(1, 4), 1);
        is("23 beyond", x.storm(4, 0), Due.BEYOND);
        is("23 beyond", x.storm(-1, 0), Due.BEYOND);
        is("23 beyond", x.storm(0, 3), Due.BEYOND);
        is("23 beyond", x.storm(0, -1), Due.BEYOND);
    }

    private static void tellsHarm() {
        row(0, 0, 13, 26, -1, 67);
        is("24 harm", x.harm(0, 0), 2);
        is("24 harm", x.harm(1, 1), 0);
        is("24 nothing is blank", x.storm(0, 0), 3);
        is("24 what is wrong already", x.harm(3, 2), 2);
        is("24 beyond", x.harm(4, 0), Due.BEYOND);
        is("24 beyond", x.harm(-1, 0), Due.BEYOND);
        is("24 beyond", x.harm(0, 3), Due.BEYOND);
        is("24 beyond", x.harm(0, -1), Due.BEYOND);
        fresh();
        is("25 nothing harms", x.worst(), 0);
        row(0, 0, 13, -1, 40, 53);
        is("25 of several the least", x.worst(), 0);
        row(0, 0, 13, -1, 40, 53, 40);
        is("25 the greatest", x.worst(), 1);
        row(0, 2, 41);
        is("25 the vanes", x.worst(), 11);
    }

    private static void fills() {
        fresh();
        is("26 fill", x.fill(), 4);
        is("26 the least first", x.pull(0), 0);
        is("26 the least that may", x.pull(1), 13);
        is("26 by what is there", x.pull(2), 0);
        is("26 by what is there", x.pull(3), 13);
        row(0, -1, 40, -1);
        x.become(1, 27);
        is("26 only the empty ones", x.fill(), 2);
        is("26 least", x.ofLot(0, 1) * 10 + x.ofLot(0, 2), 0);
        is("26 least", x.pull(0), 1);
        is("26 the others stay", x.as(1, 2), 7);
        is("26 again", x.fill(), 1);
        is("26 nothing is empty", x.fill(), 0);
        row(0, 0, 0, -1);
        is("26 wrong pairs elsewhere", x.fill(), 1);
        row(0, -1, -1, 50);
        law(4, 4);
        is("26 back again", x.fill(), 2);
        is("26 back again", x.pull(0) * 100 + x.pull(1), 5050);
    }

    /** The LOT between needs to be alike with 0 and with 40 in all: there is none. */
    private static void fillsNotAtAll() {
        row(0, 0, -1, 40);
        law(4, 4);
        is("26 none", x.fill(), Due.NONE);
        is("26 nothing is filled", x.count(5), 2);
        row(0, -1, -1, -1, -1, 0, -1, 40, -1);
        law(4, 4);
        is("26 none", x.fill(), Due.NONE);
        is("26 nothing is filled", x.count(5), 2);
        triesInVain(1, Due.NONE);
        triesInVain(2, Due.FULL);
        triesToTheLast(12, 47, 5);
        triesToTheLast(17, 46, Due.FULL);
    }

    /** With any HOUSE in so many LOTS, 81 + 81 * 81 + .. are looked at before it is clear that there is no way. */
    private static void triesInVain(int lots, long due) {
        fresh();
        x.town(8, 8, 0);
        for (int lot = 0; lot < 64; lot++) {
            Due.put(x, lot, 50, 0);
        }
        for (int i = 0; i < lots; i++) {
            x.pull(2 * i);
        }
        x.pull(63);
        x.become(62, 0);
        x.pull(55);
        Due.put(x, 55, 0, 40);
        law(4, 4);
        is("26 all ways", x.fill(), due);
        is("26 nothing is filled", x.count(5), 63 - lots);
    }

    /** Two towns of which the one is FILLED by 20000 TRIES, as was counted apart, the other by one more. */
    private static void triesToTheLast(int first, int last, long due) {
        fresh();
        x.town(2, 4, 0);
        law(3, 3);
        x.build(0, 0, first);
        x.build(7, 0, last);
        x.build(2, 50, 0);
        is("26 20000 tries", x.fill(), due);
    }

    private static void tellsWorth() {
        row(0, 0, 80, -1, 13);
        is("27 without a text", x.worth(), 0);
        Due.text(x, 1, "c*8+r*4+d*2+v-7");
        is("27 worth", x.worth(), -7 + 23 + 0);
        x.storm(3, 2);
        is("27 a blank vane", x.worth(), -7 + 24 + 0);
        x.become(0, 50);
        is("27 a church", x.worth(), -7 + 24 + 0);
        Due.text(x, 1, "c*500-50");
        is("27 each is held", x.worth(), -50 + 99 - 50);
        fresh();
        is("27 no houses", x.worth(), 0);
    }

    private static void tellsWhatPays() {
        row(0, -1, 0);
        x.become(1, 5);
        is("28 the least of several", x.pays(0), 12 + 1);
        is("28 how much", x.pays(1), -15);
        Due.text(x, 1, "c+3*r+20*d+v");
        is("28 what", x.pays(0), 12 + 6 + 2);
        is("28 how much", x.pays(1), 40 - 15);
        Due.text(x, 0, "k*20");
        is("28 less cost", x.pays(0), 12 + 2);
        is("28 less cost", x.pays(1), 2);
        x.become(1, 50);
        is("28 none", x.pays(0), Due.NONE);
        is("28 beyond", x.pays(2), Due.BEYOND);
        is("28 beyond", x.pays(-1), Due.BEYOND);
        row(0, 27);
        is("28 the first change", x.pays(0), 0);
        row(0, 0, 13, -1, 0);
        Due.text(x, 1, "r");
        is("28 lawful behind it", x.pays(0), 5);
        is("28 nothing is changed", x.ofLot(0, 4), 0);
        x.build(2, 50, 0);
        x.become(2, 0);
        is("28 the town isn't lawful", x.pays(0), Due.NONE);
        row(0, 0, 12);
        is("28 it becomes lawful", x.pays(0), 1);
    }

    private static void livesYears() {
        fresh();
        is("29 nothing there", x.years(5), 0);
        is("29 year", x.count(6), 5);
        int z = 1;
        for (int i = 0; i < 15; i++) {
            z = z * 1103515245 + 12345;
        }
        is("29 three draws a year", x.count(11), z);
        is("29 beyond", x.years(0), Due.BEYOND);
        is("29 beyond", x.years(201), Due.BEYOND);
        for (int i = 0; i < 49; i++) {
            x.years(200);
        }
        is("29 year", x.count(6), 9805);
        is("29 state", x.years(195), Due.STATE);
        is("29 to the last", x.years(194), 0);
        is("29 state", x.years(1), Due.STATE);
        is("29 beyond", x.years(-1), Due.BEYOND);
        livesAlone();
        spendsNoMore();
        staysUnlawful();
    }

    private static void livesAlone() {
        row(0, 0, -1, -1);
        x.become(0, 3);
        int[] sorts = {0, 0, 0, 0};
        int z = 1;
        int changed = 0;
        for (int i = 0; i < 60; i++) {
            z = z * 1103515245 + 12345;
            int lot = (z >>> 8) % 3;
            z = z * 1103515245 + 12345;
            int mark = (z >>> 8) % 4;
            z = z * 1103515245 + 12345;
            int sort = (z >>> 8) % 3;
            if (lot == 0 && sorts[mark] != sort) {
                sorts[mark] = sort;
                changed++;
            }
        }
        is("29 changed", x.years(60), changed);
        is("29 spent", x.count(7), 13L * changed);
        is("29 house", x.pull(0), 27L * sorts[0] + 9L * sorts[1] + 3L * sorts[2] + sorts[3]);
    }

    private static void spendsNoMore() {
        fresh();
        x.town(1, 1, 0);
        x.build(0, 20, 0);
        Due.text(x, 0, "99");
        long due = 0;
        for (int i = 0; i < 49; i++) {
            due += 198L * x.years(200);
            if (i == 40) {
                x.image();
            }
        }
        for (int i = 0; i < 8; i++) {
            is("29 spent", x.count(7), Math.min(999999, due));
            x.restore();
            due = x.count(7);
            due += 198L * x.years(200);
        }
        is("29 spent", x.count(7), Math.min(999999, due));
    }

    private static void staysUnlawful() {
        row(0, 0, 0, 0, 0, -1, 13);
        is("29 nothing is lawful behind it", x.years(200), 0);
        x.become(5, 50);
        is("29 a church", x.years(200), 0);
        is("29 year", x.count(6), 400);
    }

    private static void seeds() {
        fresh();
        is("30 seed", x.seed(MIN), 1);
        is("30 seed", x.seed(-1000000003), MIN);
        is("30 any number", x.seed(5), -1000000003);
        is("30 z", x.count(11), 5);
        is("30 no errors", x.told(3), 0);
    }

    private static void speaks() {
        long[][] due = {
            {7, 14, 2, 12},
            {7, 16, 2, 18},
            {21, 42, 2, 40},
            {7, 14, -2, -16},
            {7, 18, 2, 16},
            {21, 42, 2, 28},
            {7, 14, -4, 28},
        };
        row(0, -1, -1, 0);
        for (int kind = 0; kind < 7; kind++) {
            x.become(2, 10 * kind + 3);
            for (int act = 0; act < 4; act++) {
                is("31 kind " + kind + " act " + act, x.voice(2, act, 5), due[kind][act]);
            }
        }
        is("31 none", x.voice(1, 0, 0), Due.NONE);
        is("31 beyond", x.voice(1, 4, 0), Due.BEYOND);
        is("31 beyond", x.voice(1, -1, 0), Due.BEYOND);
        is("31 beyond", x.voice(3, 0, 0), Due.BEYOND);
        is("31 beyond", x.voice(-1, 0, 0), Due.BEYOND);
        x.become(2, 3);
        is("31 goes round", x.voice(2, 0, MAX), MIN + 1);
        is("31 any number", x.voice(2, 2, -1000000000), -1000000003);
        is("31 no error", x.told(3), 0);
    }

    private static void trace(String what, int... bodies) {
        is(what, x.count(10), bodies.length);
        for (int i = 0; i < bodies.length; i++) {
            is(what + " " + i, x.trace(i), bodies[i]);
        }
        is(what, x.trace(bodies.length), Due.NONE);
    }

    private static void traces() {
        row(0, -1, -1, 0);
        is("32 none", x.trace(0), Due.NONE);
        x.become(2, 63);
        x.voice(2, 3, 5);
        trace("32 bought tells", 71, 11, 10, 13, 11, 10, 70, 40, 12);
        is("32 none", x.trace(-1), Due.NONE);
        is("32 none", x.trace(40), Due.NONE);
        is("32 none", x.trace(MAX), Due.NONE);
        x.voice(1, 0, 0);
        is("32 an error leaves it", x.count(10), 9);
        x.become(2, 53);
        x.voice(2, 3, 5);
        trace("32 church tells", 60, 13, 11, 30, 10, 12, 30, 10);
        x.become(2, 43);
        x.voice(2, 1, 5);
        trace("32 linked paints", 50, 20, 11, 10, 12);
        x.become(2, 33);
        x.voice(2, 2, 5);
        trace("32 new turns", 40, 12);
        x.become(2, 13);
        x.voice(2, 3, 5);
        trace("32 free tells", 13, 20, 11, 10, 12, 12);
        x.voice(2, 0, 5);
        trace("32 free stands", 10);
        x.image();
        x.voice(2, 2, 5);
        x.restore();
        trace("32 no image has it", 12);
    }

    private static void keepsSheets() {
        fresh();
        is("33 sheet", x.sheet(0, 8, 64), 1);
        is("33 sheet", x.sheet(3, 32, 0), 1);
        is("33 missing, n doesn't matter", x.sheet(1, 0, -5), 1);
        is("33 missing, n doesn't matter", x.sheet(0, 0, 65), 1);
        is("33 missing", x.put(0, 0, 0), Due.NONE);
        is("33 beyond", x.sheet(0, 8, 65), Due.BEYOND);
        is("33 state", x.sheet(0, 8, -1), Due.STATE);
        is("33 beyond ahead of state", x.sheet(4, 8, -1), Due.BEYOND);
        is("33 beyond ahead of state", x.sheet(0, 7, -1), Due.BEYOND);
        is("33 beyond", x.sheet(-1, 0, 0), Due.BEYOND);
        is("33 beyond", x.sheet(0, -8, 0), Due.BEYOND);
        is("33 beyond", x.sheet(0, 64, 0), Due.BEYOND);
        is("33 still missing", x.put(0, 0, 0), Due.NONE);
        is("34 put", x.put(3, 0, 0), Due.BEYOND);
        row(0, -1, 0);
        x.sheet(0, 8, 2);
        is("34 put", x.put(0, 0, 0x7fffff), 1);
        is("34 the lowest bits", x.judge(0), -1);
        is("34 beyond", x.put(0, 2, 0), Due.BEYOND);
        is("34 beyond", x.put(0, -1, 0), Due.BEYOND);
        is("34 beyond", x.put(4, 0, 0), Due.BEYOND);
        is("34 beyond", x.put(-1, 0, 0), Due.BEYOND);
        x.sheet(0, 16, 2);
        is("33 all are 0", x.judge(0), 0);
        x.put(0, 0, 0x7fffff);
        x.put(0, 1, 0x70000);
        is("34 16 bits", x.judge(0), -1);
        x.put(0, 1, 0x8000);
        is("34 16 bits", x.judge(0), 1);
        x.sheet(0, 32, 2);
        x.put(0, 0, 0x7fffff);
        is("34 32 bits", x.judge(0), 0);
        x.put(0, 0, -1);
        is("34 32 bits", x.judge(0), -1);
    }

    private static void movesNumbers() {
        row(0, 1, 2, 3, 4, 5);
        x.sheet(0, 8, 5);
        x.sheet(1, 8, 5);
        x.sheet(2, 16, 5);
        for (int i = 0; i < 5; i++) {
            x.put(0, i, i + 1);
        }
        is("35 all", x.move(0, 0, 1, 0, 5), 5);
        is("35 all", x.judge(1), -1);
        is("35 onto itself", x.move(1, 0, 1, 1, 4), 4);
        is("35 as they all were", x.judge(1), 1);
        x.move(1, 1, 1, 0, 4);
        is("35 as they all were", x.judge(1), 4);
        x.move(0, 4, 1, 4, 1);
        is("35 as they all were", x.judge(1), -1);
        is("35 nothing", x.move(0, 5, 1, 5, 0), 0);
        is("35 unlike bits", x.move(0, 0, 2, 0, 1), Due.KIND);
        is("35 missing", x.move(0, 0, 3, 0, 1), Due.NONE);
        is("35 missing", x.move(3, 0, 0, 0, 1), Due.NONE);
        is("35 beyond", x.move(4, 0, 3, 0, 1), Due.BEYOND);
        is("35 beyond", x.move(3, 0, -1, 0, 1), Due.BEYOND);
        is("35 kind ahead of beyond", x.move(0, -1, 2, 0, 1), Due.KIND);
        int[][] beyond = {{-1, 0, 1}, {0, -1, 1}, {0, 0, -1}, {0, 0, 6}, {1, 0, 5}, {0, 1, 5}, {MAX, 0, 1}, {0, MAX, 1}, {1, 1, MAX}, {5, 0, 1}, {MIN, 0, MIN}};
        for (int[] b : beyond) {
            is("35 beyond", x.move(0, b[0], 1, b[1], b[2]), Due.BEYOND);
        }
        is("35 stays", x.judge(1), -1);
    }

    private static void buildsSheets() {
        fresh();
        x.sheet(0, 8, 4);
        x.put(0, 1, 13);
        x.put(0, 2, 26);
        x.put(0, 3, 26);
        is("36 up to the first that is refused", x.builds(0), 3);
        is("36 houses", x.count(5), 3);
        is("36 kind and m", x.ofLot(2, 1) + x.ofLot(2, 2), 0);
        is("36 not empty", x.builds(0), 0);
        is("36 no errors", x.told(3) + x.told(5), 0);
        is("36 missing", x.builds(1), Due.NONE);
        is("36 beyond", x.builds(4), Due.BEYOND);
        is("36 beyond", x.builds(-1), Due.BEYOND);
        x.town(1, 2, 0);
        is("36 too many", x.builds(0), 2);
        x.town(1, 2, 0);
        x.put(0, 1, 81);
        is("36 no house", x.builds(0), 1);
        x.town(1, 2, 0);
        x.put(0, 0, -1);
        is("36 no house", x.builds(0), 0);
        is("36 told", x.told(1), 2);
    }

    private static void judgesSheets() {
        row(0, 0, -1, 13);
        x.sheet(0, 8, 3);
        is("37 an empty lot", x.judge(0), 1);
        x.put(0, 1, -1);
        is("37 another house", x.judge(0), 2);
        x.put(0, 2, 13);
        is("37 all", x.judge(0), -1);
        x.put(0, 0, -1);
        is("37 not empty", x.judge(0), 0);
        x.sheet(1, 8, 4);
        x.move(0, 1, 1, 1, 2);
        is("37 one too many", x.judge(1), 3);
        x.sheet(1, 8, 2);
        x.put(1, 1, -1);
        is("37 one lacks", x.judge(1), 2);
        x.sheet(1, 8, 0);
        is("37 all lack", x.judge(1), 0);
        x.put(0, 0, 0);
        x.storm(2, 1);
        is("37 a blank mark", x.judge(0), 2);
        x.put(0, 2, 10);
        is("37 a blank mark is none", x.judge(0), 2);
        x.put(0, 2, -1);
        is("37 a blank mark is none", x.judge(0), 2);
        is("37 missing", x.judge(3), Due.NONE);
        is("37 beyond", x.judge(4), Due.BEYOND);
        is("37 beyond", x.judge(-1), Due.BEYOND);
    }

    private static void keepsImages() {
        fresh();
        is("39 none", x.restore(), Due.NONE);
        x.town(2, 3, 2);
        x.build(4, 23, 50);
        x.rule(1, 2);
        x.rule(0, 2);
        Due.text(x, 0, "m*2");
        Due.text(x, 1, "c+5");
        x.feed('k', 1);
        x.tell(81);
        x.tell(3);
        x.years(7);
        x.storm(0, 1);
        int z = x.count(11);
        int spent = x.count(7);
        is("38 image", x.image(), 1);
        x.town(1, 2, 0);
        x.rule(0, 0);
        x.rule(1, 3);
        x.feed('m', 1);
        x.text(1);
        Due.text(x, 0, "50");
        x.check();
        x.years(3);
        x.sheet(0, 8, 1);
        is("39 year", x.restore(), 7);
        is("39 town", x.count(0) * 100 + x.count(1) * 10 + x.count(2), 232);
        is("39 law", x.count(3) * 10 + x.count(4), 22);
        is("39 house", x.count(5) * 10 + x.as(4, 2), 13);
        is("39 sides", x.may(5, -1), 24);
        is("39 z", x.count(11), z);
        is("39 spent", x.count(7), spent);
        is("39 tape", x.count(8), 1);
        is("39 waiting", x.count(9), 2);
        is("39 cost", x.law(0, 0, 4, 0, 0), 8);
        is("39 worth", x.law(1, 4, 0, 0, 0), 9);
        is("39 what waits", x.check(), 2);
        is("39 the sheets stay", x.put(0, 0, 1), 1);
        is("39 what is told stays", x.told(2), 1);
        x.pull(4);
        is("39 the image stays", x.restore(), 7);
        is("39 the image stays", x.count(5) * 10 + x.count(9), 12);
        is("38 again", x.image(), 2);
        x.town(1, 1, 0);
        is("38 again", x.image(), 3);
        x.restore();
        is("38 in place", x.count(1), 1);
        keepsALargeTown();
    }

    /** All pairs of a torus are WRONG: they tell what is SIDE BY SIDE, throughout. */
    private static void keepsALargeTown() {
        fresh();
        x.town(8, 8, 2);
        for (int lot = 0; lot < 64; lot++) {
            Due.put(x, lot, 69, 80);
        }
        x.image();
        x.town(8, 8, 0);
        x.build(63, 10, 0);
        x.town(8, 7, 0);
        x.restore();
        is("39 m", x.as(63, 6), 9);
        is("39 pairs", x.wrong(-1), 128);
        int i = 0;
        for (int lot = 0; lot < 64; lot++) {
            for (int other = lot + 1; other < 64; other++) {
                int across = Math.abs(lot % 8 - other % 8);
                int down = other / 8 - lot / 8;
                if ((across == 0 && (down == 1 || down == 7)) || (down == 0 && (across == 1 || across == 7))) {
                    is("39 pair " + i, x.wrong(i), 64 * lot + other);
                    i++;
                }
            }
        }
        is("39 house", x.pull(63), 80);
    }

    private static void checksWhatWaits() {
        row(0, 0, -1, 40, -1);
        for (int i = 1; i <= 20; i++) {
            is("40 tell", x.tell(i == 1 ? 81 : 7), i);
        }
        is("40 full", x.tell(1), Due.FULL);
        is("40 waiting", x.count(9), 20);
        is("41 check", x.check(), 2);
        is("41 none do then", x.count(9), 0);
        is("41 nothing waits", x.check(), 0);
        x.tell(81);
        x.tell(12);
        is("41 some lots", x.check(), 0);
        x.tell(81);
        x.tell(12);
        x.tell(81);
        x.tell(32);
        is("41 all lots", x.check(), 0);
        x.tell(81);
        x.tell(12);
        x.tell(81);
        x.tell(32);
        x.tell(81);
        is("41 beyond the last lot", x.check(), 5);
        x.tell(MIN);
        is("41 the first", x.check(), 1);
    }

    private static void counts() {
        fresh();
        is("42 beyond", x.count(12), Due.BEYOND);
        is("42 beyond", x.count(-1), Due.BEYOND);
        x.town(5, 6, 2);
        is("42 rows", x.count(0), 5);
        is("42 columns", x.count(1), 6);
        is("42 shape", x.count(2), 2);
        x.rule(1, 3);
        x.rule(0, 2);
        is("42 least", x.count(3), 2);
        is("42 most", x.count(4), 3);
        x.seed(-1000000001);
        is("42 z", x.count(11), Due.BEYOND);
        is("42 counted are errors alone", x.told(1), 2);
    }

    private static void tellsErrors() {
        fresh();
        x.pull(9);
        x.pull(0);
        x.pull(1);
        x.rule(0, 2);
        x.build(0, 0, 0);
        x.build(1, 0, 1);
        x.build(1, 0, 2);
        x.build(1, 0, 3);
        for (int i = 0; i < 24; i++) {
            x.tell(i);
        }
        is("43 beyond", x.told(1), 1);
        is("43 none", x.told(2), 2);
        is("43 state", x.told(3), 1);
        is("43 full", x.told(4), 4);
        is("43 kind", x.told(5), 3);
        is("43 another", x.told(0), Due.BEYOND);
        is("43 another", x.told(6), Due.BEYOND);
        is("43 another", x.told(MIN), Due.BEYOND);
        is("43 counted, too", x.told(1), 4);
        is("43 longs", x.rows(0), Due.BEYOND);
        is("43 longs", x.told(1), 5);
    }
}
