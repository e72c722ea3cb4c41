import java.util.ArrayList;
import java.util.List;

/** The edges that the document's "Terms" name: just below, there, and just above. */
public final class TermsEdgesTest {
    private static final int MIN = Integer.MIN_VALUE;
    private static final int MAX = Integer.MAX_VALUE;

    /** HOUSES that are alike with HOUSE 0 in 0, 1, .. 4 MARKS. */
    private static final int[] ALIKE_WITH_0 = {40, 13, 4, 1, 0};

    private static AlikeTown x;

    public static void main(String[] args) {
        joinsEachTown();
        tellsHousesByNumbers();
        keepsKindsAndMs();
        countsBlankAsLikeNone();
        keepsEachLaw();
        bindsAllButChurches();
        asksNothingOfEmptyLots();
        costsByKind();
        costsByM();
        changesToAnotherSortAlone();
        countsSpentToItsEnd();
        countsYearsToTheirEnd();
        holdsFiftyBytes();
        readsTextsOfFiftyBytes();
        readsOneToFourDigits();
        holdsFiveOpen();
        closesWhatWasOpen();
        readsNoBlanks();
        comparesOnce();
        tellsTheFirstFault();
        wrapsInts();
        cutsQuotients();
        answersTruth();
        holdsCostAndWorth();
        namesSortsAndBlank();
        keepsLowestBits();
        countsErrorsInTheirOrder();
        answersFor512Calls();
        Due.end("TermsEdgesTest");
    }

    private static void is(String what, long got, long want) {
        Due.is(what, got, want);
    }

    private static void town(int rows, int columns, int shape) {
        x = new AlikeTown();
        x.town(rows, columns, shape);
    }

    private static void law(int least, int most) {
        x.rule(0, 0);
        x.rule(1, most);
        x.rule(0, least);
    }

    /** "SIDE BY SIDE are ..": each TOWN that can be, with the same HOUSE everywhere and a LAW that forbids it. */
    private static void joinsEachTown() {
        for (int rows = 1; rows <= 8; rows++) {
            for (int columns = 1; columns <= 8; columns++) {
                for (int shape = 0; shape <= 2; shape++) {
                    joins(rows, columns, shape);
                }
            }
        }
    }

    private static void joins(int rows, int columns, int shape) {
        String what = "town " + rows + " " + columns + " " + shape;
        town(rows, columns, shape);
        law(4, 4);
        x.sheet(0, 8, rows * columns);
        is(what, x.builds(0), rows * columns);
        law(0, 0);
        int size = 0;
        for (int lot = 0; lot < rows * columns; lot++) {
            for (int other = lot + 1; other < rows * columns; other++) {
                if (isSideBySide(rows, columns, shape, lot, other)) {
                    is(what + " pair " + size, x.wrong(size), 64 * lot + other);
                    size++;
                }
            }
        }
        is(what + " pairs", x.wrong(-1), size);
        is(what + " no more pairs", x.wrong(size), Due.NONE);
    }

    private static boolean isSideBySide(int rows, int columns, int shape, int lot, int other) {
        int across = Math.abs(lot % columns - other % columns);
        int down = Math.abs(lot / columns - other / columns);
        if (down == 0) {
            return across == 1 || (shape >= 1 && columns >= 3 && across == columns - 1);
        }
        return across == 0 && (down == 1 || (shape == 2 && rows >= 3 && down == rows - 1));
    }

    /** "A HOUSE is told by a number 0 to 80: 27 times .., 9 times .., 3 times .., and that of its vane." */
    private static void tellsHousesByNumbers() {
        for (int house = 0; house <= 80; house++) {
            town(1, 1, 0);
            is("house " + house, x.build(0, 0, house), 1);
            is("colour of " + house, x.ofLot(0, 3), house / 27);
            is("roof of " + house, x.ofLot(0, 4), house / 9 % 3);
            is("door of " + house, x.ofLot(0, 5), house / 3 % 3);
            is("vane of " + house, x.ofLot(0, 6), house % 3);
            is("house " + house, x.pull(0), house);
        }
    }

    /** "of a KIND: 0 HOUSE; .. 6 BOUGHT ..; with a number m (0 to 9)". */
    private static void keepsKindsAndMs() {
        for (int km = 0; km <= 69; km++) {
            town(1, 1, 0);
            x.build(0, km, 80);
            is("kind " + km, x.ofLot(0, 1), km / 10);
            is("m " + km, x.ofLot(0, 2), km % 10);
            is("as a house " + km, x.as(0, 0), km % 10);
            is("house " + km, x.pull(0), 80);
        }
    }

    /** "BLANK is like none": a SORT neither, nor BLANK. */
    private static void countsBlankAsLikeNone() {
        for (int mark = 0; mark < 4; mark++) {
            for (int sort = 0; sort < 3; sort++) {
                town(1, 3, 0);
                law(0, 4);
                x.build(0, 0, 40 * sort);
                x.build(1, 9, 40 * sort);
                x.build(2, 50, 40 * sort);
                is("before a storm", x.alike(0, 1), 4);
                x.storm(mark, sort);
                is("blank and blank", x.alike(0, 1), 3);
                is("blank and a sort", x.alike(1, 2), 3);
                is("a sort and blank", x.alike(2, 1), 3);
                is("no blank", x.alike(2, 2), 4);
                law(4, 4);
                is("one short of least", x.wrong(-1), 1);
                law(3, 3);
                is("at least", x.wrong(-1), 0);
            }
        }
        town(1, 2, 0);
        law(0, 0);
        x.build(0, 0, 0);
        x.build(1, 0, 40);
        for (int i = 0; i < 8; i++) {
            x.storm(i / 2, i % 2);
        }
        is("all is blank", x.alike(0, 1), 0);
        is("all is blank", x.wrong(-1), 0);
        x.rule(1, 1);
        x.rule(0, 1);
        is("all is blank", x.wrong(-1), 1);
    }

    /** "LAWFUL, if .. ALIKE is LEAST at least and MOST at most": each LAW, each ALIKE, in each act that asks. */
    private static void keepsEachLaw() {
        for (int least = 0; least <= 4; least++) {
            for (int most = least; most <= 4; most++) {
                for (int alike = 0; alike <= 4; alike++) {
                    keepsLaw(least, most, alike);
                }
            }
        }
    }

    private static void keepsLaw(int least, int most, int alike) {
        String what = "law " + least + " " + most + " alike " + alike;
        boolean isLawful = alike >= least && alike <= most;
        town(1, 2, 0);
        law(least, most);
        x.build(0, 0, 0);
        is(what + " build", x.build(1, 0, ALIKE_WITH_0[alike]), isLawful ? 2 : Due.KIND);
        x.sheet(0, 8, 2);
        x.put(0, 1, ALIKE_WITH_0[alike]);
        x.pull(0);
        x.pull(1);
        is(what + " builds", x.builds(0), isLawful ? 2 : 1);
        x.pull(1);
        Due.put(x, 1, 0, ALIKE_WITH_0[alike]);
        is(what + " alike", x.alike(0, 1), alike);
        is(what + " wrong", x.wrong(-1), isLawful ? 0 : 1);
        is(what + " before", x.before(), isLawful ? 1 : 0);
        int right = alike < least ? least - alike : Math.max(0, alike - most);
        is(what + " right", x.right(), right);
        is(what + " steps", x.steps(0, 0, 0), isLawful ? 0 : Due.STATE);
        int mark = Math.max(0, alike - 1);
        int sort = alike == 0 ? 0 : 2;
        int then = alike == 0 ? 1 : alike - 1;
        is(what + " paint", x.paint(1, mark, sort), then >= least && then <= most ? 10 : Due.KIND);
    }

    /** "BOUND is each HOUSE but a CHURCH": of all pairs of KINDS. */
    private static void bindsAllButChurches() {
        for (int kind = 0; kind < 7; kind++) {
            for (int other = 0; other < 7; other++) {
                String what = "kinds " + kind + " " + other;
                boolean isFree = kind == 5 || other == 5;
                town(1, 2, 0);
                x.build(0, 10 * kind, 0);
                is(what + " build", x.build(1, 10 * other, 0), isFree ? 2 : Due.KIND);
                x.pull(1);
                Due.put(x, 1, 10 * other, 0);
                is(what + " wrong", x.wrong(-1), isFree ? 0 : 1);
                is(what + " may", x.may(0, -1), other == 5 ? 81 : 32);
                is(what + " right", x.right(), isFree ? 0 : 3);
            }
        }
    }

    /** "A pair .. is LAWFUL, if one is EMPTY": before there was a HOUSE, and behind it. */
    private static void asksNothingOfEmptyLots() {
        town(1, 3, 0);
        law(4, 4);
        x.build(0, 0, 0);
        is("empty beside it", x.wrong(-1), 0);
        x.build(1, 0, 0);
        is("the last that may", x.may(2, 0), 0);
        is("no other may", x.may(2, 1), Due.NONE);
        x.pull(1);
        is("empty again", x.may(2, -1), 81);
        is("empty again", x.build(2, 0, 80), 2);
        is("empty between", x.wrong(-1), 0);
        is("empty between", x.right(), 0);
    }

    /** "HOUSE: the TEXT. FREE: half of that. HELD: twice the TEXT. .. LINKED: as FREE, and 5." */
    private static void costsByKind() {
        int[] texts = {0, 1, 2, 3, 49, 50, 98, 99, 100};
        for (int text : texts) {
            int held = Math.min(99, text);
            town(1, 1, 0);
            x.build(0, 9, 0);
            Due.text(x, 0, "" + text);
            cost("house", 9, held);
            cost("free", 19, held / 2);
            cost("held", 29, 2 * held);
            cost("linked", 49, held / 2 + 5);
            cost("church", 59, -1);
        }
    }

    private static void cost(String what, int km, long due) {
        x.become(0, km);
        for (int mark = 0; mark < 4; mark++) {
            is(what + " of m " + km % 10 + " cost of mark " + mark, x.ofLot(0, 7 + mark), due);
        }
        long spent = x.count(7);
        int sort = x.ofLot(0, 3) == 0 ? 1 : 0;
        is(what + " paint", x.paint(0, 0, sort), due < 0 ? Due.STATE : spent + due);
    }

    /** "NEW: m. .. BOUGHT: as NEW, less 3 (0 at least)", and without a TEXT 10+m. */
    private static void costsByM() {
        for (int m = 0; m <= 9; m++) {
            town(1, 1, 0);
            x.build(0, 0, 0);
            cost("new", 30 + m, m);
            cost("bought", 60 + m, m <= 3 ? 0 : m - 3);
            cost("house", m, 10 + m);
            cost("free", 10 + m, (10 + m) / 2);
            cost("held", 20 + m, 20 + 2 * m);
            cost("linked", 40 + m, (10 + m) / 2 + 5);
            cost("church", 50 + m, -1);
        }
    }

    /** "A CHANGE (a MARK gets a SORT 0 to 2 that it hasn't)": from BLANK each of the three. */
    private static void changesToAnotherSortAlone() {
        for (int mark = 0; mark < 4; mark++) {
            for (int had = 0; had <= 3; had++) {
                for (int sort = 0; sort < 3; sort++) {
                    town(1, 1, 0);
                    x.build(0, 0, had == 3 ? 0 : 40 * had);
                    if (had == 3) {
                        x.storm(mark, 0);
                    }
                    is("from sort " + had + " to " + sort, x.paint(0, mark, sort), had == sort ? Due.STATE : 10);
                    is("sort", x.ofLot(0, 3 + mark), sort);
                }
            }
        }
    }

    /** "SPENT (.. no more than 999999 is counted)". */
    private static void countsSpentToItsEnd() {
        spendTo999998();
        is("spent", x.count(7), 999998);
        int image = x.image();
        spend(0, 999998);
        spend(1, 999999);
        spend(0, 999999);
        spend(1, 999999);
        for (int cost = 1; cost <= 99; cost += 49) {
            is("image " + image, x.restore() >= 0 ? x.count(7) : -1, 999998);
            spend(cost, 999999);
        }
        x.restore();
        Due.text(x, 0, "0");
        x.years(50);
        is("spent by years of cost 0", x.count(7), 999998);
        Due.text(x, 0, "2");
        Due.holds("something was changed", x.years(50) > 0);
        is("spent by years", x.count(7), 999999);
        Due.holds("something was changed", x.years(50) > 0);
        is("spent by years", x.count(7), 999999);
    }

    private static void spendTo999998() {
        town(1, 1, 0);
        x.build(0, 20, 0);
        Due.text(x, 0, "99");
        while (x.count(7) < 999998 - 200 * 198) {
            x.years(200);
        }
        while (x.count(7) < 999998 - 198) {
            x.paint(0, 0, x.ofLot(0, 3) == 0 ? 1 : 0);
        }
        x.become(0, 0);
        while (x.count(7) < 999998) {
            Due.text(x, 0, "" + Math.min(99, 999998 - x.count(7)));
            x.paint(0, 0, x.ofLot(0, 3) == 0 ? 1 : 0);
        }
    }

    private static void spend(int cost, long due) {
        Due.text(x, 0, "" + cost);
        is("spent", x.paint(0, 0, x.ofLot(0, 3) == 0 ? 1 : 0), due);
        is("spent is kept", x.count(7), due);
    }

    /** "YEAR (0 to 9999; 0 at first)". */
    private static void countsYearsToTheirEnd() {
        x = new AlikeTown();
        is("year", x.count(6), 0);
        liveTo9998(x);
        is("year", x.count(6), 9998);
        is("two more", x.years(2), Due.STATE);
        is("year", x.count(6), 9998);
        is("one more", x.years(1), 0);
        is("year", x.count(6), 9999);
        is("one too many", x.years(1), Due.STATE);
        is("year", x.count(6), 9999);
        Look.refuses("years from 9998", TermsEdgesTest::fullIn9998, Due.STATE, y -> y.years(2));
        Look.refuses("years from 9998", TermsEdgesTest::fullIn9998, Due.STATE, y -> y.years(200));
        Look.refuses("201 years from 9998", TermsEdgesTest::fullIn9998, Due.BEYOND, y -> y.years(201));
    }

    private static void fullIn9998(AlikeTown y) {
        Look.full(y);
        liveTo9998(y);
    }

    private static void liveTo9998(AlikeTown y) {
        while (y.count(6) < 9998) {
            y.years(Math.min(200, 9998 - y.count(6)));
        }
    }

    private static void feedOnes(AlikeTown y, int n) {
        for (int left = n; left > 0; left -= 8) {
            y.feed(0x3131313131313131L, Math.min(8, left));
        }
    }

    /** "THE TAPE (bytes, at most 50)". */
    private static void holdsFiftyBytes() {
        for (int had = 41; had <= 50; had++) {
            for (int n = 1; n <= 8; n++) {
                x = new AlikeTown();
                feedOnes(x, had);
                is(n + " bytes behind " + had, x.feed(0, n), had + n <= 50 ? had + n : Due.FULL);
                is("bytes then", x.count(8), had + n <= 50 ? had + n : had);
            }
        }
        Look.refuses("7 bytes behind 44", TermsEdgesTest::fullTape, Due.FULL, y -> y.feed(0x3131313131313131L, 7));
        Look.refuses("9 bytes behind 44", TermsEdgesTest::fullTape, Due.BEYOND, y -> y.feed(0, 9));
    }

    /** The full town with "v*3" and 41 bytes more. */
    private static void fullTape(AlikeTown y) {
        Look.full(y);
        for (int i = 0; i < 20; i++) {
            y.feed('+' | '1' << 8, 2);
        }
        y.feed('1', 1);
    }

    private static void readsTextsOfFiftyBytes() {
        StringBuilder text = new StringBuilder("1");
        while (text.length() < 49) {
            text.append("+1");
        }
        value(text.toString(), 25);
        value(text + "1", 35);
        fault("as many as there are, if it ends too early", text + "+", 50);
        fault("the last of 50", text + "k", 49);
        fault("the first of 50", "+" + text, 0);
        x = new AlikeTown();
        Due.text(x, 1, text + "1");
        is("the tape is empty then", x.feed(0, 8), 8);
    }

    private static void fault(String what, String text, int place) {
        x = new AlikeTown();
        is(what + ": " + text, Due.text(x, 1, text), -10 - place);
        is("the tape is empty then", x.count(8), 0);
        is("no error", x.told(1) + x.told(2) + x.told(3) + x.told(4) + x.told(5), 0);
    }

    private static void value(String text, long due) {
        valueOf(text, 0, 0, 0, 0, due);
    }

    private static void valueOf(String text, int c, int r, int d, int v, long due) {
        x = new AlikeTown();
        is("text " + text, Due.text(x, 1, text), 1);
        is("value of " + text, x.law(1, c, r, d, v), due);
    }

    /** "a NUMBER of 1 to 4 digits". */
    private static void readsOneToFourDigits() {
        fault("no digit", "", 0);
        fault("no digit", "c+", 2);
        value("7", 7);
        value("0", 0);
        value("99", 99);
        value("999-990", 9);
        value("9999-9990", 9);
        value("0000", 0);
        value("0012", 12);
        fault("five digits", "00000", 4);
        fault("five digits", "12345", 4);
        fault("five digits", "(12345)", 5);
        fault("five digits", "1234+12345", 9);
        fault("a sign of none", "/1", 0);
        fault("a sign of none", ":", 0);
        fault("a sign of none", "1:", 1);
    }

    /** "At most 5 of ! and ( are open at once": in each order. */
    private static void holdsFiveOpen() {
        for (int signs = 0; signs < 32; signs++) {
            StringBuilder open = new StringBuilder();
            StringBuilder close = new StringBuilder();
            int nots = 0;
            for (int i = 0; i < 5; i++) {
                boolean isNot = (signs >> i & 1) != 0;
                open.append(isNot ? '!' : '(');
                close.append(isNot ? "" : ")");
                nots += isNot ? 1 : 0;
            }
            int due = nots == 0 ? 3 : nots % 2 == 0 ? 1 : 0;
            value(open.substring(1) + "3" + close.substring((signs & 1) == 0 ? 1 : 0), (signs & 1) == 0 ? due : nots == 1 ? 3 : nots % 2);
            value(open + "3" + close, due);
            fault("six are open", open + "!3" + close, 5);
            fault("six are open", open + "(3)" + close, 5);
            fault("ends too early", open.toString(), 5);
        }
    }

    /** What is closed isn't open: a ! is with its Q, a ( with its ). */
    private static void closesWhatWasOpen() {
        value("!!!!!c+!!!!!c+!!!!!c", 3);
        value("(((((1)))))*(((((2)))))", 2);
        value("((((!0+!0))))+(((((1)))))", 3);
        value("((((!0*(7)))))", 7);
        value("!(((!0&!0)))", 0);
        fault("five, closed, and six", "(((!(1))))+((((!!1))))", 16);
        fault("four and two", "((((1+!(c*(2)))))", 7);
        fault("two left open, and four", "(((((1)*(2)))+((((1", 17);
        value("((((1)*(2))))", 2);
        value("((((!1)*!2)))+((((!0))))", 1);
    }

    /** "No blanks." */
    private static void readsNoBlanks() {
        fault("ahead", " 1", 0);
        fault("between", "1 +1", 1);
        fault("between", "1+ 1", 2);
        fault("behind", "1 ", 1);
        fault("in a number", "1 1", 1);
        fault("in parens", "( 1)", 1);
        fault("behind a sign", "! 1", 1);
        fault("a tab", "1\t", 1);
        fault("a line", "1\n", 1);
        fault("a byte 0", "1\0", 1);
        fault("a byte 0", "\0", 0);
    }

    /** "B: S, or S < S, S = S, S > S": one at most, but in ( ) again. */
    private static void comparesOnce() {
        for (String sign : new String[] {"<", "=", ">"}) {
            for (String other : new String[] {"<", "=", ">"}) {
                fault("two comparisons", "1" + sign + "2" + other + "3", 3);
                fault("two comparisons", "(1" + sign + "2+1" + other + "3)", 6);
                value("0*(1" + sign + "(2" + other + "3))", 0);
                value("(1" + sign + "2" + "&1" + other + "2|1" + sign + "0)*0", 0);
            }
            fault("ends too early", "1" + sign, 2);
            fault("nothing ahead", sign + "1", 0);
            fault("not two signs in one", "1" + sign + "=2", 2);
        }
    }

    /** "FAULT: the place of the first byte with which no TEXT goes on; how many there are, if it ends too early." */
    private static void tellsTheFirstFault() {
        fault("nothing there", "", 0);
        fault("a name of the other use", "k", 0);
        fault("a name of the other use", "c+m", 2);
        fault("a letter that is none", "x", 0);
        fault("a large letter", "C", 0);
        fault("no sign between", "cr", 1);
        fault("no sign between", "c1", 1);
        fault("no sign between", "1c", 1);
        fault("no sign between", "(c)(r)", 3);
        fault("no sign between", "c!r", 1);
        fault("nothing in parens", "()", 1);
        fault("one ) too many", "(c))", 3);
        fault("a ) of none", "c)", 1);
        fault("one ) too few", "((c)", 4);
        fault("no second sign", "c++r", 2);
        fault("no sign ahead", "-1", 0);
        fault("ends with a sign", "c|", 2);
        fault("the first of two faults", "c++r++", 2);
        for (int b = 0; b < 256; b++) {
            String one = "" + (char) b;
            boolean begins = "!(crdv0123456789".contains(one);
            boolean goesOn = "|&<=>+-*/%".contains(one);
            boolean isWhole = "crdv0123456789".contains(one);
            x = new AlikeTown();
            is("byte " + b, Due.text(x, 1, one), isWhole ? 1 : begins ? -11 : -10);
            is("byte " + b + " behind a name", Due.text(x, 1, "c" + one), goesOn ? -12 : -11);
            isWhole = "km0123456789".contains(one);
            is("byte " + b + " of COST", Due.text(x, 0, one), isWhole ? 1 : "!(".contains(one) ? -11 : -10);
        }
    }

    /** "Ints that wrap". */
    private static void wrapsInts() {
        valueOf("c+1<0", MAX, 0, 0, 0, 1);
        valueOf("c+1<0", MAX - 1, 0, 0, 0, 0);
        valueOf("c-1>0", MIN, 0, 0, 0, 1);
        valueOf("c-1>0", MIN + 1, 0, 0, 0, 0);
        valueOf("c*r", 65536, 65536, 0, 0, 0);
        valueOf("c*r<0", 32768, 65536, 0, 0, 1);
        valueOf("0-c=c", MIN, 0, 0, 0, 1);
        valueOf("c+r", MAX, MAX, 0, 0, -2);
        valueOf("9999*9999*43", 0, 0, 0, 0, 99);
        valueOf("9999*9999*22", 0, 0, 0, 0, -99);
    }

    /** "/ cut, % the rest that it leaves, both by 0 are 0". */
    private static void cutsQuotients() {
        int[][] due = {{7, 2, 3, 1}, {-7, 2, -3, -1}, {7, -2, -3, 1}, {-7, -2, 3, -1}, {1, 2, 0, 1}, {-1, 2, 0, -1},
            {2, 2, 1, 0}, {0, 5, 0, 0}, {5, 0, 0, 0}, {-5, 0, 0, 0}, {0, 0, 0, 0}, {5, 1, 5, 0}, {5, -1, -5, 0}};
        for (int[] d : due) {
            valueOf("c/r", d[0], d[1], 0, 0, d[2]);
            valueOf("c%r", d[0], d[1], 0, 0, d[3]);
        }
        valueOf("c/r=c", MIN, -1, 0, 0, 1);
        valueOf("c%r", MIN, -1, 0, 0, 0);
        valueOf("c/r", MIN, 0, 0, 0, 0);
        valueOf("c%r", MIN, 0, 0, 0, 0);
    }

    /** "| & < = > ! are 1 or 0, what is not 0 being true". */
    private static void answersTruth() {
        int[] values = {-1, 0, 1, 2, MIN, MAX};
        for (int a : values) {
            valueOf("!c", a, 0, 0, 0, a == 0 ? 1 : 0);
            valueOf("!!c", a, 0, 0, 0, a == 0 ? 0 : 1);
            for (int b : values) {
                valueOf("c|r", a, b, 0, 0, a != 0 || b != 0 ? 1 : 0);
                valueOf("c&r", a, b, 0, 0, a != 0 && b != 0 ? 1 : 0);
                valueOf("c<r", a, b, 0, 0, a < b ? 1 : 0);
                valueOf("c=r", a, b, 0, 0, a == b ? 1 : 0);
                valueOf("c>r", a, b, 0, 0, a > b ? 1 : 0);
            }
        }
    }

    /** "held within 0 to 99; without a TEXT 10+m. .. held within -99 to 99; without 0." */
    private static void holdsCostAndWorth() {
        x = new AlikeTown();
        int[][] bare = {{-11, 0}, {-10, 0}, {-9, 1}, {0, 10}, {9, 19}, {88, 98}, {89, 99}, {90, 99}};
        for (int[] b : bare) {
            is("cost without a text, m " + b[0], x.law(0, 7, b[0], 0, 0), b[1]);
            is("worth without a text", x.law(1, b[0], b[0], b[0], b[0]), 0);
        }
        Due.text(x, 0, "k-m");
        Due.text(x, 1, "c-r+d-v");
        int[] sums = {MIN, -101, -100, -99, -98, -1, 0, 1, 98, 99, 100, 101, MAX};
        for (int sum : sums) {
            is("cost " + sum, x.law(0, sum, 0, 55, 66), Math.max(0, Math.min(99, sum)));
            is("worth " + sum, x.law(1, sum, 0, 0, 0), Math.max(-99, Math.min(99, sum)));
        }
        is("names in order", x.law(1, 40, 3, 2, 30), 9);
        is("names in order", x.law(0, 40, 3, 2, 30), 37);
    }

    /** "WORTH of a HOUSE, NAMES c, r, d, v its SORTS (3: BLANK)", "COST, NAMES k the MARK, m m". */
    private static void namesSortsAndBlank() {
        town(1, 1, 0);
        x.build(0, 7, 2 * 27 + 9);
        Due.text(x, 1, "c*27+r*9+d*3+v");
        is("sorts", x.ofLot(0, 11), 63);
        is("all of them", x.worth(), 63);
        int due = 63;
        int[][] storms = {{0, 2, 27}, {1, 1, 18}, {2, 0, 9}, {3, 0, 3}};
        for (int[] s : storms) {
            x.storm(s[0], s[1]);
            due += s[2];
            is("blank", x.ofLot(0, 11), Math.min(99, due));
        }
        is("all is blank", x.worth(), 99);
        Due.text(x, 1, "c+r+d+v");
        is("all is blank", x.worth(), 12);
        Due.text(x, 0, "k*10+m");
        for (int mark = 0; mark < 4; mark++) {
            is("cost of mark " + mark, x.ofLot(0, 7 + mark), 10 * mark + 7);
        }
    }

    /** "rows of 8, 16, 32 bits", "becomes v (its lowest bits)". */
    private static void keepsLowestBits() {
        int[] bits = {8, 16, 32};
        int[] numbers = {80, 81, -1, 127, 128, 255, 256, 256 + 80, -256 + 80, 65535, 65536, 65536 + 80, 65536 + 256, MIN, MIN + 80, MAX};
        for (int b : bits) {
            for (int v : numbers) {
                int kept = b == 8 ? (byte) v : b == 16 ? (short) v : v;
                town(1, 1, 0);
                x.sheet(3, b, 1);
                is("put", x.put(3, 0, v), 1);
                is(b + " bits of " + v + " for an empty lot", x.judge(3), kept == -1 ? -1 : 0);
                x.build(0, 0, 80);
                is(b + " bits of " + v + " for house 80", x.judge(3), kept == 80 ? -1 : 0);
                x.pull(0);
                is(b + " bits of " + v + " built", x.builds(3), kept == 80 || kept == 0 ? 1 : 0);
            }
        }
    }

    /** "ERRORS are answers below -1000000000 .. LOW - 1 BEYOND, .. LOW - 5 KIND (in longs, too)". */
    private static void countsErrorsInTheirOrder() {
        x = new AlikeTown();
        is("beyond", x.rows(0), -1000000001L);
        is("none", x.pull(0), -1000000002L);
        x.town(2, 1, 0);
        is("state", x.before(), -1000000003L);
        for (int i = 0; i < 20; i++) {
            x.tell(1);
        }
        is("full", x.tell(1), -1000000004L);
        x.build(0, 0, 0);
        is("kind", x.build(1, 0, 0), -1000000005L);
        for (int k = 1; k <= 5; k++) {
            is("told " + k, x.told(k), 1);
        }
    }

    /** "An object is used for at most 512 calls": the last one answers, too. */
    private static void answersFor512Calls() {
        x = new AlikeTown();
        for (int i = 0; i < 511; i++) {
            x.may(0, 81);
        }
        is("the 512th call", x.told(2), 511);
        List<Long> all = new ArrayList<>();
        x = new AlikeTown();
        for (int i = 0; i < 512; i++) {
            all.add((long) x.image());
        }
        is("the 512th image", all.get(511), 512);
    }
}
