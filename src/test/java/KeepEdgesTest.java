/** The edges that promises 30 to 43 name: just below, there, and just above; what is refused changes nothing. */
public final class KeepEdgesTest {
    private static final int MIN = Integer.MIN_VALUE;
    private static final int MAX = Integer.MAX_VALUE;

    private static AlikeTown x;

    public static void main(String[] args) {
        seedsAnyNumber();
        asksVoicesOfHouses();
        goesRound();
        tellsLotAndM();
        tellsTheLatestTrace();
        makesSheets();
        makesSheetsAnew();
        putsNumbersThatAre();
        asksMovesInOrder();
        movesNumbersThatStand();
        movesAsTheyAllWere();
        buildsUpToTheFirst();
        judgesEachLot();
        judgesHowMany();
        judgesBlanks();
        keepsImages();
        keepsSheetsTraceAndErrors();
        restoresAll();
        restoresNoTexts();
        tellsTwenty();
        checksEachPlace();
        checksBeyondTheLastLot();
        countsTwelveThings();
        tellsFiveErrors();
        tellsAlone();
        Due.end("KeepEdgesTest");
    }

    private static void is(String what, long got, long want) {
        Due.is(what, got, want);
    }

    private static void full() {
        x = new AlikeTown();
        Look.full(x);
    }

    /** A row of LOTS with HOUSES (-1: EMPTY), whatever THE LAW says. */
    private static void row(int... houses) {
        x = new AlikeTown();
        x.town(1, houses.length, 0);
        for (int i = 0; i < houses.length; i++) {
            if (houses[i] >= 0) {
                Due.put(x, i, 0, houses[i]);
            }
        }
    }

    private static void sheet(AlikeTown y, int sheet, int bits, int... numbers) {
        y.sheet(sheet, bits, numbers.length);
        for (int i = 0; i < numbers.length; i++) {
            y.put(sheet, i, numbers[i]);
        }
    }

    /** The numbers of a SHEET that are HOUSES, as builds() builds them where anything may stand. */
    private static void numbers(String what, AlikeTown y, int sheet, int... due) {
        y.town(8, 8, 0);
        y.rule(0, 0);
        y.rule(1, 4);
        is(what + ", how many", y.builds(sheet), due.length);
        for (int i = 0; i < due.length; i++) {
            is(what + " " + i, y.pull(i), due[i]);
        }
    }

    /** The full town with HOUSES (churches) in LOTS 3 and 5, too. */
    private static void houses(AlikeTown y) {
        Look.full(y);
        y.build(3, 50, 0);
        y.build(5, 50, 0);
    }

    // ---- promise 30

    private static void seedsAnyNumber() {
        x = new AlikeTown();
        int was = 1;
        for (int v : new int[] {MIN, MAX, -1, 0, 1, -1000000000, -1000000001, -1000000005, -1000000006}) {
            is("30 what it was", x.seed(v), was);
            is("42 z", x.count(11), v);
            was = v;
        }
        for (int k = 1; k <= 5; k++) {
            is("30 any number is no error", x.told(k), 0);
        }
        for (int v : new int[] {MIN, MAX, -1, 0}) {
            x.seed(v);
            x.years(1);
            int z = v;
            for (int i = 0; i < 3; i++) {
                z = z * 1103515245 + 12345;
            }
            is("29 three draws from " + v, x.count(11), z);
        }
    }

    // ---- promises 31 and 32

    private static void asksVoicesOfHouses() {
        Look.range("31 lot", KeepEdgesTest::houses, 0, 5, (y, v) -> y.voice(v, 0, 1));
        Look.range("31 act", 0, 3, (y, v) -> y.voice(0, v, 1));
        Look.refuses("31 empty", Due.NONE, y -> y.voice(3, 0, 1));
        Look.refuses("31 beyond ahead of none", Due.BEYOND, y -> y.voice(3, 4, 1));
        Look.refuses("31 beyond ahead of none", Due.BEYOND, y -> y.voice(5, -1, 1));
    }

    /** "ints that go round", and "any number": what is below LOW is no ERROR. */
    private static void goesRound() {
        row(-1, -1, -1, 0);
        x.become(3, 9);
        is("31 stands to the greatest", x.voice(3, 0, MAX - 3), MAX);
        is("31 stands round it", x.voice(3, 0, MAX - 2), MIN);
        is("31 turns to the least", x.voice(3, 2, MIN + 9), MIN);
        is("31 turns round it", x.voice(3, 2, MIN + 8), MAX);
        is("31 paints to the greatest", x.voice(3, 1, 0x3fffffff - 3), MAX - 1);
        is("31 paints round it", x.voice(3, 1, 0x40000000 - 3), MIN);
        is("31 tells", x.voice(3, 3, MIN), (MIN + 3) * 2 ^ MIN - 9);
        x.become(3, 29);
        is("31 stands three times", x.voice(3, 0, MAX), (MAX + 3) * 3);
        x.become(3, 39);
        is("31 what has no opposite", x.voice(3, 2, MIN + 9), MIN);
        is("31 the greatest", x.voice(3, 2, MIN + 10), MAX);
        x.become(3, 0);
        for (int k = 0; k <= 6; k++) {
            is("31 any number", x.voice(3, 2, -1000000000 - k), -1000000000 - k);
        }
        for (int k = 1; k <= 5; k++) {
            is("31 no error", x.told(k), 0);
        }
    }

    /** "n is its LOT, m as told": the first LOT and the last one, the least m and the greatest. */
    private static void tellsLotAndM() {
        for (int lot = 0; lot <= 63; lot += 63) {
            for (int m = 0; m <= 9; m += 9) {
                x = new AlikeTown();
                x.town(8, 8, 0);
                x.build(lot, m, 0);
                voices(lot, 5 + lot, 2 * (5 + lot), 5 - m, 2 * (5 + lot) ^ 5 - m);
                int free = 2 * (5 + lot) - (1 - m);
                x.become(lot, 10 + m);
                voices(lot, 5 + lot, free, 5 - m, free ^ 5 - m);
                x.become(lot, 20 + m);
                voices(lot, 3 * (5 + lot), 6 * (5 + lot), 5 - m, 6 * (5 + lot) ^ 5 - m);
                x.become(lot, 30 + m);
                voices(lot, 5 + lot, 2 * (5 + lot), m - 5, 2 * (5 + lot) ^ m - 5);
                x.become(lot, 40 + m);
                voices(lot, 5 + lot, free + 2, 5 - m, free + 2 ^ 5 - m);
                x.become(lot, 50 + m);
                voices(lot, 3 * (5 + lot), 6 * (5 + lot), 5 - m, (6 * (5 + lot) ^ 5 - m) - 3 * (2 + lot));
                x.become(lot, 60 + m);
                int turns = m - 5 ^ lot;
                voices(lot, 5 + lot, 2 * (5 + lot), turns, 2 * (5 + lot) - (2 * (5 + lot) ^ turns));
            }
        }
    }

    private static void voices(int lot, int... due) {
        for (int act = 0; act < 4; act++) {
            is("31 kind " + x.ofLot(lot, 1) + " act " + act + " in lot " + lot, x.voice(lot, act, 5), due[act]);
        }
    }

    /** "THE TRACE's i-th. NONE: there is none such", of each KIND and act. */
    private static void tellsTheLatestTrace() {
        int[][] due = {
            {10}, {11, 10}, {12}, {13, 11, 10, 12},
            {10}, {20, 11, 10, 12}, {12}, {13, 20, 11, 10, 12, 12},
            {30, 10}, {11, 30, 10}, {12}, {13, 11, 30, 10, 12},
            {10}, {11, 10}, {40, 12}, {13, 11, 10, 40, 12},
            {10}, {50, 20, 11, 10, 12}, {12}, {13, 50, 20, 11, 10, 12, 12},
            {30, 10}, {11, 30, 10}, {12}, {60, 13, 11, 30, 10, 12, 30, 10},
            {10}, {11, 10}, {70, 40, 12}, {71, 11, 10, 13, 11, 10, 70, 40, 12},
        };
        row(0);
        is("32 no voice yet", x.trace(0), Due.NONE);
        is("42 no bodies yet", x.count(10), 0);
        for (int i = 0; i < due.length; i++) {
            row(0);
            x.become(0, i / 4 * 10);
            x.voice(0, (i + 1) % 4, 7);
            x.voice(0, i % 4, 7);
            is("42 bodies of " + i, x.count(10), due[i].length);
            for (int j = 0; j < due[i].length; j++) {
                is("32 body " + j + " of " + i, x.trace(j), due[i][j]);
            }
            is("32 behind the last of " + i, x.trace(due[i].length), Due.NONE);
            is("32 ahead of the first of " + i, x.trace(-1), Due.NONE);
        }
        Look.refuses("32 behind the last", Due.NONE, y -> y.trace(9));
        Look.refuses("32 far behind it", Due.NONE, y -> y.trace(MAX));
        Look.refuses("32 ahead of the first", Due.NONE, y -> y.trace(-1));
        Look.refuses("32 far ahead of it", Due.NONE, y -> y.trace(MIN));
        Look.refuses("32 no voice yet", y -> y.tell(81), Due.NONE, y -> y.trace(0));
        Look.tellsAlone("32 the first", Look::full, 71, y -> y.trace(0));
        Look.tellsAlone("32 the last", Look::full, 12, y -> y.trace(8));
    }

    // ---- promise 33

    private static void makesSheets() {
        Look.range("33 sheet", 0, 3, (y, v) -> y.sheet(v, 8, 1));
        Look.range("33 sheet that is to be missing", 0, 3, (y, v) -> y.sheet(v, 0, 1));
        for (int bits = -1; bits <= 65; bits++) {
            int of = bits;
            if (bits == 0 || bits == 8 || bits == 16 || bits == 32) {
                x = new AlikeTown();
                is("33 " + bits + " bits", x.sheet(0, bits, 1), 1);
                is("33 " + bits + " bits", x.put(0, 0, 0), bits == 0 ? Due.NONE : 1);
            } else {
                Look.refuses("33 " + bits + " bits", Due.BEYOND, y -> y.sheet(0, of, 1));
            }
        }
        for (int bits = 8; bits <= 32; bits *= 2) {
            int of = bits;
            for (int n : new int[] {0, 1, 63, 64}) {
                x = new AlikeTown();
                is("33 n numbers", x.sheet(1, bits, n), 1);
                is("33 the last of n", x.put(1, n - 1, 0), n == 0 ? Due.BEYOND : 1);
                is("33 behind the last", x.put(1, n, 0), Due.BEYOND);
            }
            Look.refuses("33 65 numbers", Due.BEYOND, y -> y.sheet(0, of, 65));
            Look.refuses("33 many numbers", Due.BEYOND, y -> y.sheet(0, of, MAX));
            Look.refuses("33 -1 numbers", Due.STATE, y -> y.sheet(0, of, -1));
            Look.refuses("33 fewer numbers", Due.STATE, y -> y.sheet(0, of, MIN));
            Look.refuses("33 beyond of the sheet ahead of state", Due.BEYOND, y -> y.sheet(4, of, -1));
            Look.refuses("33 beyond of the sheet ahead of state", Due.BEYOND, y -> y.sheet(-1, of, -1));
            Look.refuses("33 beyond of the bits ahead of state", Due.BEYOND, y -> y.sheet(0, of + 1, -1));
            Look.refuses("33 beyond of the bits ahead of state", Due.BEYOND, y -> y.sheet(0, of - 1, -1));
        }
    }

    /** "n numbers, all 0", whatever it had; "0: it is missing, n doesn't matter". */
    private static void makesSheetsAnew() {
        for (int n : new int[] {MIN, -1, 0, 64, 65, MAX}) {
            full();
            is("33 missing", x.sheet(0, 0, n), 1);
            is("33 missing", x.put(0, 0, 0), Due.NONE);
            is("33 missing again", x.sheet(0, 0, n), 1);
            is("33 no error but of put", x.told(2), 2);
        }
        for (int bits = 8; bits <= 32; bits *= 2) {
            full();
            is("33 anew", x.sheet(0, bits, 5), 1);
            numbers("33 all are 0", x, 0, 0, 0, 0, 0, 0);
            full();
            x.sheet(0, 0, 0);
            x.sheet(0, bits, 4);
            numbers("33 all are 0", x, 0, 0, 0, 0, 0);
            numbers("33 the others stay", x, 1, 5, 7, 11);
        }
        full();
        x.sheet(0, 8, 1);
        x.sheet(0, 8, 4);
        numbers("33 those behind a shorter one are 0, too", x, 0, 0, 0, 0, 0);
    }

    // ---- promise 34

    private static void putsNumbersThatAre() {
        Look.Setup noneMissing = y -> {
            Look.full(y);
            y.sheet(3, 8, 1);
        };
        Look.range("34 sheet", noneMissing, 0, 3, (y, v) -> y.put(v, 0, 1));
        Look.range("34 number", 0, 3, (y, v) -> y.put(0, v, 1));
        Look.range("34 number", 0, 1, (y, v) -> y.put(2, v, 1));
        Look.refuses("34 missing", Due.NONE, y -> y.put(3, 0, 1));
        Look.refuses("34 missing ahead of no such number", Due.NONE, y -> y.put(3, -1, 1));
        Look.refuses("34 missing ahead of no such number", Due.NONE, y -> y.put(3, 64, 1));
        Look.refuses("34 no such sheet ahead of missing", Due.BEYOND, y -> y.put(4, 0, 1));
        Look.Setup empty = y -> {
            Look.full(y);
            y.sheet(3, 16, 0);
        };
        Look.refuses("34 no number", empty, Due.BEYOND, y -> y.put(3, 0, 1));
        full();
        is("34 the first", x.put(0, 0, 2), 1);
        is("34 the last", x.put(0, 3, 3), 1);
        numbers("34 the others stay", x, 0, 2, 13, 26, 3);
    }

    // ---- promise 35

    private static void twoOfEight(AlikeTown y) {
        Look.full(y);
        sheet(y, 1, 8, 5, 7, 11);
    }

    private static void asksMovesInOrder() {
        Look.Setup noneMissing = y -> {
            Look.full(y);
            for (int sheet = 0; sheet < 4; sheet++) {
                y.sheet(sheet, 8, 1);
            }
        };
        Look.range("35 sheet", noneMissing, 0, 3, (y, v) -> y.move(v, 0, 1, 0, 1));
        Look.range("35 other", noneMissing, 0, 3, (y, v) -> y.move(1, 0, v, 0, 1));
        Look.refuses("35 the first is missing", Due.NONE, y -> y.move(3, 0, 0, 0, 1));
        Look.refuses("35 the other is missing", Due.NONE, y -> y.move(0, 0, 3, 0, 1));
        Look.refuses("35 both are the missing one", Due.NONE, y -> y.move(3, 0, 3, 0, 0));
        Look.refuses("35 no such sheet ahead of missing", Due.BEYOND, y -> y.move(3, 0, 4, 0, 1));
        Look.refuses("35 no such sheet ahead of missing", Due.BEYOND, y -> y.move(-1, 0, 3, 0, 1));
        Look.refuses("35 missing ahead of beyond", Due.NONE, y -> y.move(3, -1, 0, 0, 1));
        Look.refuses("35 missing ahead of beyond", Due.NONE, y -> y.move(0, 0, 3, 0, -1));
        for (int sheet = 0; sheet < 3; sheet++) {
            for (int other = 0; other < 3; other++) {
                int from = sheet;
                int to = other;
                if (sheet != other) {
                    Look.refuses("35 unlike bits", Due.KIND, y -> y.move(from, 0, to, 0, 1));
                    Look.refuses("35 unlike bits of no numbers", Due.KIND, y -> y.move(from, 0, to, 0, 0));
                    Look.refuses("35 kind ahead of beyond", Due.KIND, y -> y.move(from, 0, to, 0, -1));
                    Look.refuses("35 kind ahead of beyond", Due.KIND, y -> y.move(from, 9, to, 9, 9));
                } else {
                    is("35 itself", move(from, 0, to, 0, 1), 1);
                }
            }
        }
    }

    private static long move(int sheet, int i, int other, int j, int n) {
        x = new AlikeTown();
        twoOfEight(x);
        return x.move(sheet, i, other, j, n);
    }

    /** "BEYOND: n, i, or j is below 0, or they don't stand there": from one of 4 numbers to one of 3. */
    private static void movesNumbersThatStand() {
        for (int n = -1; n <= 5; n++) {
            for (int i = -1; i <= 5; i++) {
                for (int j = -1; j <= 4; j++) {
                    int[] v = {i, j, n};
                    boolean stands = n >= 0 && i >= 0 && j >= 0 && i + n <= 4 && j + n <= 3;
                    if (stands) {
                        is("35 " + n + " from " + i + " to " + j, move(0, i, 1, j, n), n);
                        int[] due = {5, 7, 11};
                        int[] from = {1, 13, 26, 80};
                        System.arraycopy(from, i, due, j, n);
                        numbers("35 moved", x, 1, due);
                        numbers("35 those that were moved stay", x, 0, from);
                    } else {
                        Look.refuses("35 " + n + " from " + i + " to " + j, KeepEdgesTest::twoOfEight, Due.BEYOND, y -> y.move(0, v[0], 1, v[1], v[2]));
                    }
                }
            }
        }
        int[][] far = {{MAX, 0, 1}, {0, MAX, 1}, {0, 0, MAX}, {1, 1, MAX}, {MAX, MAX, MAX}, {MIN, 0, 1}, {0, MIN, 1}, {0, 0, MIN}, {MIN, MIN, MIN}, {4, 3, MIN}};
        for (int[] v : far) {
            Look.refuses("35 far off", KeepEdgesTest::twoOfEight, Due.BEYOND, y -> y.move(0, v[0], 1, v[1], v[2]));
        }
    }

    /** "(or the same) .. as they all were": onto themselves, in both directions. */
    private static void movesAsTheyAllWere() {
        for (int i = 0; i <= 4; i++) {
            for (int j = 0; j <= 4; j++) {
                for (int n = 0; n <= 4 - Math.max(i, j); n++) {
                    full();
                    is("35 itself", x.move(0, i, 0, j, n), n);
                    int[] due = {1, 13, 26, 80};
                    System.arraycopy(due.clone(), i, due, j, n);
                    numbers("35 itself, " + n + " from " + i + " to " + j, x, 0, due);
                }
            }
        }
        for (int bits = 8; bits <= 32; bits *= 2) {
            x = new AlikeTown();
            int[] all = new int[64];
            for (int i = 0; i < 64; i++) {
                all[i] = i;
            }
            sheet(x, 0, bits, all);
            x.sheet(3, bits, 64);
            is("35 all of 64", x.move(0, 0, 3, 0, 64), 64);
            is("35 all but one", x.move(3, 0, 3, 1, 63), 63);
            x.town(8, 8, 0);
            x.rule(0, 0);
            x.rule(1, 4);
            is("35 all of 64", x.builds(3), 64);
            for (int i = 0; i < 64; i++) {
                is("35 all but one " + i, x.pull(i), Math.max(0, i - 1));
            }
        }
    }

    // ---- promise 36

    private static void buildsUpToTheFirst() {
        Look.Setup noneMissing = y -> {
            Look.full(y);
            y.sheet(3, 8, 1);
        };
        Look.range("36 sheet", noneMissing, 0, 3, (y, v) -> y.builds(v));
        Look.refuses("36 missing", Due.NONE, y -> y.builds(3));
        Look.tellsAlone("36 the first lot isn't empty", Look::full, 0, y -> y.builds(0));
        for (int bad : new int[] {-1, 81, 127, -128}) {
            for (int at = 0; at < 4; at++) {
                x = new AlikeTown();
                sheet(x, 0, 8, 0, 13, 0, 13);
                x.put(0, at, bad);
                is("36 number " + bad + " at " + at, x.builds(0), at);
                is("36 houses", x.count(5), at);
            }
        }
        for (int at = 0; at < 4; at++) {
            x = new AlikeTown();
            sheet(x, 0, 8, 0, 13, 0, 13);
            x.build(at, 59, 0);
            is("36 not empty at " + at, x.builds(0), at);
            is("36 houses", x.count(5), at + 1);
            x.town(1, 4, 0);
            x.put(0, at, 4);
            is("36 alike in two at " + at, x.builds(0), at == 0 ? 1 : at);
            for (int k = 1; k <= 5; k++) {
                is("36 no error", x.told(k), 0);
            }
        }
        x = new AlikeTown();
        x.town(1, 3, 0);
        sheet(x, 0, 8);
        is("36 no numbers", x.builds(0), 0);
        sheet(x, 0, 8, 0, 13);
        is("36 fewer than lots", x.builds(0), 2);
        x.town(1, 3, 0);
        sheet(x, 0, 8, 0, 13, 26);
        is("36 as many as lots", x.builds(0), 3);
        is("36 kind and m", x.ofLot(2, 1) + x.ofLot(2, 2), 0);
        x.town(1, 3, 0);
        sheet(x, 0, 8, 0, 13, 26, 80);
        is("36 more than lots", x.builds(0), 3);
        is("36 no error", x.told(1), 0);
    }

    // ---- promise 37

    private static void judgesEachLot() {
        Look.Setup noneMissing = y -> {
            Look.full(y);
            y.sheet(3, 8, 1);
        };
        Look.range("37 sheet", noneMissing, 0, 3, (y, v) -> y.judge(v));
        Look.refuses("37 missing", Due.NONE, y -> y.judge(3));
        Look.tellsAlone("37 another house", Look::full, 0, y -> y.judge(0));
        for (int bits = 8; bits <= 32; bits *= 2) {
            row(0, -1, 80, -1);
            sheet(x, 0, bits, 0, -1, 80, -1);
            is("37 all", x.judge(0), -1);
            int[] right = {0, -1, 80, -1};
            for (int at = 0; at < 4; at++) {
                for (int bad : new int[] {-2, -1, 0, 1, 79, 80, 81}) {
                    x.put(0, at, bad);
                    is("37 " + bad + " at " + at, x.judge(0), bad == right[at] ? -1 : at);
                }
                x.put(0, at, right[at]);
            }
            x.put(0, 1, 5);
            x.put(0, 3, 5);
            is("37 the first of two", x.judge(0), 1);
            is("37 no error", x.told(1) + x.told(2), 0);
        }
        row(0, 13);
        x.become(0, 59);
        x.become(1, 61);
        sheet(x, 0, 8, 0, 13);
        is("37 of any kind", x.judge(0), -1);
    }

    /** "one that lacks, or is too many, too". */
    private static void judgesHowMany() {
        row(0, 13, -1, -1);
        int[] numbers = {0, 13, -1, -1, -1, -1};
        for (int n = 0; n <= 6; n++) {
            sheet(x, 0, 8, java.util.Arrays.copyOf(numbers, n));
            is("37 " + n + " for four lots", x.judge(0), n == 4 ? -1 : Math.min(n, 4));
        }
        sheet(x, 0, 8, 0, 14, -1, -1, -1);
        is("37 another one ahead of one too many", x.judge(0), 1);
        sheet(x, 0, 8, 1);
        is("37 another one ahead of one that lacks", x.judge(0), 0);
        x.town(8, 8, 1);
        x.sheet(1, 8, 64);
        for (int i = 0; i < 64; i++) {
            is("37 up to " + i, x.judge(1), i);
            x.put(1, i, -1);
        }
        is("37 all of 64", x.judge(1), -1);
    }

    /** "one with a BLANK MARK is none": no number of it, nor -1. */
    private static void judgesBlanks() {
        for (int mark = 0; mark < 4; mark++) {
            for (int number = -1; number <= 80; number++) {
                row(40, 40);
                x.become(0, 50);
                x.storm(mark, 1);
                sheet(x, 0, 8, 40, number);
                is("37 a blank as " + number, x.judge(0), 1);
            }
            x.become(1, 0);
            x.paint(1, mark, 1);
            sheet(x, 0, 8, 40, 40);
            is("37 a blank no more", x.judge(0), -1);
        }
    }

    // ---- promises 38 and 39

    private static void keepsImages() {
        Look.refuses("39 no image", y -> {
            y.town(1, 5, 1);
            y.build(0, 13, 7);
            y.tell(81);
            y.years(3);
        }, Due.NONE, AlikeTown::restore);
        x = new AlikeTown();
        is("39 no image", x.restore(), Due.NONE);
        for (int i = 1; i <= 9; i++) {
            x.years(i);
            is("38 how often", x.image(), i);
            x.years(1);
            is("39 the latest", x.restore(), x.count(6));
        }
        is("39 the latest", x.count(6), 45);
        is("39 it stays", x.restore(), 45);
        is("39 told stays", x.told(2), 1);
    }

    /** "All (but SHEETS, THE TRACE, what told() tells, and how often this was done)". */
    private static void keepsSheetsTraceAndErrors() {
        full();
        sheet(x, 3, 16, 44);
        x.put(0, 0, 3);
        x.sheet(2, 0, 0);
        x.pull(3);
        long[] told = new long[6];
        for (int k = 1; k <= 5; k++) {
            told[k] = x.told(k);
        }
        x.voice(0, 0, 1);
        is("39 year", x.restore(), 0);
        is("39 the trace stays", x.count(10), 1);
        is("39 the trace stays", x.trace(0), 10);
        for (int k = 1; k <= 5; k++) {
            is("39 told stays " + k, x.told(k), told[k]);
        }
        is("39 sheets stay missing", x.put(2, 0, 0), Due.NONE);
        is("38 how often stays", x.image(), 2);
        x.restore();
        numbers("39 sheets stay", x, 0, 3, 13, 26, 80);
        numbers("39 sheets stay", x, 3, 44);
    }

    private static void restoresAll() {
        full();
        is("39 year", x.restore(), 0);
        int[] counts = {1, 3, 0, 1, 2, 1, 0, 0, 1, 1, 9, 77};
        for (int what = 0; what < counts.length; what++) {
            is("39 count " + what, x.count(what), counts[what]);
        }
        int[] house = {1, 4, 3, 1, 0, 1, 0, 9 / 2 + 5, 10 / 2 + 5, 11 / 2 + 5, 12 / 2 + 5, 1};
        for (int what = 0; what < house.length; what++) {
            is("39 of the house " + what, x.ofLot(1, what), house[what]);
        }
        is("39 cost", x.law(0, 20, 5, 0, 0), 29);
        is("39 worth", x.law(1, 0, 0, 31, 0), 31);
        is("39 what waits", x.check(), 1);
        is("39 none waits then", x.check(), 0);
        is("39 the tape", x.text(1), 1);
        is("39 the tape", x.law(1, 17, 0, 31, 0), 17);
        is("39 again", x.restore(), 0);
        is("39 what waits again", x.check(), 1);
        is("39 the text again", x.law(1, 17, 0, 31, 0), 31);
        is("39 the tape again", x.text(1), 1);
        is("39 the tape again", x.law(1, 17, 0, 31, 0), 17);
        x.restore();
        x.image();
        x.town(8, 8, 2);
        x.restore();
        is("39 an image of an image", x.pull(1), 30);
        Look.Setup kept = y -> {
            Look.full(y);
            y.image();
        };
        Look.Setup restored = y -> {
            kept.on(y);
            y.town(8, 8, 2);
            y.rule(1, 4);
            y.rule(0, 3);
            y.build(5, 50, 80);
            y.feed(0, 8);
            y.text(1);
            Due.text(y, 0, "3");
            Due.text(y, 1, "4");
            y.feed('7', 1);
            y.tell(4);
            y.check();
            y.tell(5);
            y.years(200);
            y.seed(4);
            y.restore();
        };
        Look.same("39 all is as the image has it", restored, kept);
    }

    /** What an IMAGE hasn't, isn't there behind it: TEXTS, what waits, THE TAPE. */
    private static void restoresNoTexts() {
        row(80);
        x.image();
        Due.text(x, 0, "m*7+2");
        Due.text(x, 1, "c*9+v");
        is("39 cost ahead", x.ofLot(0, 7), 2);
        is("39 worth ahead", x.worth(), 20);
        x.tell(5);
        x.feed(0, 8);
        x.restore();
        is("39 no text of cost", x.ofLot(0, 7), 10);
        is("39 no text of cost", x.law(0, 4, 50, 0, 0), 60);
        is("39 no text of worth", x.ofLot(0, 11), 0);
        is("39 no text of worth", x.law(1, 50, 50, 50, 50), 0);
        is("39 no text of worth", x.worth(), 0);
        is("39 nothing on the tape", x.text(0), -10);
        is("39 nothing waits", x.check(), 0);
    }

    // ---- promises 40 and 41

    private static void tellsTwenty() {
        x = new AlikeTown();
        for (int i = 1; i <= 20; i++) {
            is("40 how many", x.tell(i % 2 == 0 ? MIN : MAX), i);
        }
        is("40 the 21st", x.tell(81), Due.FULL);
        is("40 how many", x.count(9), 20);
        is("40 told", x.told(4), 1);
        x.check();
        is("40 from one on again", x.tell(81), 1);
        Look.Setup twenty = y -> {
            Look.full(y);
            y.town(5, 4, 0);
            while (y.count(9) < 20) {
                y.tell(81);
            }
            y.check();
            for (int i = 0; i < 20; i++) {
                y.tell(81);
            }
        };
        Look.refuses("40 the 21st", twenty, Due.FULL, y -> y.tell(81));
        Look.Setup nineteen = y -> {
            twenty.on(y);
            y.check();
            for (int i = 0; i < 19; i++) {
                y.tell(81);
            }
        };
        x = new AlikeTown();
        nineteen.on(x);
        is("40 the 20th", x.tell(81), 20);
        is("41 all are so", x.check(), 0);
    }

    /** "1 and the place (from 0) of the first that isn't so": each place, one too few and one too many. */
    private static void checksEachPlace() {
        int[] may = {32, 81, 32, 81, 81, 81, 81, 81};
        for (int n = 0; n <= 8; n++) {
            for (int bad = 0; bad <= n; bad++) {
                for (int off = -1; off <= 1; off += 2) {
                    row(-1, 0, -1, -1, -1, -1, -1, -1);
                    for (int i = 0; i < n; i++) {
                        x.tell(may[i] + (i == bad ? off : 0));
                    }
                    is("41 place " + bad + " of " + n, x.check(), bad < n ? 1 + bad : 0);
                    is("41 none wait then", x.count(9), 0);
                    is("41 nothing waits", x.check(), 0);
                }
            }
        }
        row(0, -1);
        for (int v : new int[] {MIN, -1, 0, MAX, -1000000001}) {
            x.tell(v);
            is("41 no such number", x.check(), 1);
        }
        x.tell(80);
        x.tell(7);
        is("41 the first of two", x.check(), 1);
        is("41 no error", x.told(1), 0);
    }

    private static void checksBeyondTheLastLot() {
        for (int lots = 1; lots <= 8; lots++) {
            for (int n = lots - 1; n <= lots + 2; n++) {
                x = new AlikeTown();
                x.town(1, lots, 0);
                for (int i = 0; i < n; i++) {
                    x.tell(81);
                }
                is("41 " + n + " for lots " + lots, x.check(), n <= lots ? 0 : 1 + lots);
            }
        }
    }

    // ---- promises 42 and 43

    private static void countsTwelveThings() {
        Look.range("42 what", 0, 11, AlikeTown::count);
        full();
        int[] due = {2, 3, 1, 1, 1, 4, 7, 23, 3, 2, 9};
        for (int what = 0; what < due.length; what++) {
            is("42 count " + what, x.count(what), due[what]);
            int of = what;
            Look.tellsAlone("42 count " + what, Look::full, due[what], y -> y.count(of));
        }
        x.seed(-1000000001);
        is("42 z, any number", x.count(11), -1000000001);
        is("42 no error", x.told(1), 0);
    }

    private static void tellsFiveErrors() {
        Look.range("43 k", 1, 5, AlikeTown::told);
        full();
        long[] due = {0, 1, 1, 0, 1};
        for (int k = 1; k <= 5; k++) {
            is("43 told " + k, x.told(k), due[k - 1]);
        }
        is("43 k 0", x.told(0), Due.BEYOND);
        is("43 counted, too", x.told(1), 1);
        is("43 k 6", x.told(6), Due.BEYOND);
        is("43 counted, too", x.told(1), 2);
        x.rows(0);
        x.rings(2);
        is("43 in longs, too", x.told(1), 4);
        x.before();
        is("43 in longs, too", x.told(3), 2);
    }

    /** Acts that only tell something change nothing. */
    private static void tellsAlone() {
        Look.tellsAlone("8 as", Look::full, 3, y -> y.as(0, 0));
        Look.tellsAlone("19 rows", Look::full, 81, y -> y.rows(1));
        Look.tellsAlone("20 rings", Look::full, 33696, y -> y.rings(3));
        Look.tellsAlone("35 no numbers", Look::full, 0, y -> y.move(0, 4, 0, 4, 0));
    }
}
