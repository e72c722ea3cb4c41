/**
 * A town whose houses may stand next to one another only if they are alike as THE LAW asks.
 *
 * The public methods are the acts of the document, promise by promise: each looks at its arguments in the
 * order of its ERRORS and leaves the work to one of the classes inside.
 */
public final class AlikeTown {

    private static final int LOW = -1000000000;
    private static final int BEYOND = 1;
    private static final int NONE = 2;
    private static final int STATE = 3;
    private static final int FULL = 4;
    private static final int KIND = 5;
    private static final int ERRORS = 5;

    private static final int MOST_LINE = 8;
    private static final int MOST_LOTS = 64;
    private static final int MOST_SIDES = 4;
    private static final int MOST_PAIRS = 128;
    private static final int WRAP_FROM = 3;

    private static final int MARKS = 4;
    private static final int SORTS = 3;
    private static final int BLANK = 3;
    private static final int HOUSES = 81;

    private static final int EMPTY = -1;
    private static final int FREE = 1;
    private static final int HELD = 2;
    private static final int NEW = 3;
    private static final int LINKED = 4;
    private static final int CHURCH = 5;
    private static final int BOUGHT = 6;
    private static final int KINDS = 7;

    private static final int COST = 0;
    private static final int WORTH = 1;
    private static final int USES = 2;
    private static final int MOST_COST = 99;
    private static final int MOST_WORTH = 99;
    private static final int MOST_SPENT = 999999;

    private static final int MOST_BYTES = 50;
    private static final int MOST_WAITING = 20;
    private static final int MOST_CHANGES = 4;
    private static final int MOST_STEPS = 3;
    private static final int MOST_TRIES = 20000;
    private static final int MOST_TURNS = 1000000;
    private static final int MOST_YEAR = 9999;
    private static final int MOST_YEARS = 200;
    private static final int MOST_ROW = 9;
    private static final int LEAST_RING = 3;
    private static final int SHEETS = 4;
    private static final int MOST_NUMBERS = 64;

    /** What a search answers that found nothing. */
    private static final int NOTHING = -1;

    private final State state = new State();
    private final State kept = new State();
    private final Reader reader = new Reader();
    private final Mender mender = new Mender();
    private final Stepper stepper = new Stepper();
    private final Filler filler = new Filler();
    private final Ways ways = new Ways();
    private final Voices voices = new Voices();
    private final Sheet[] sheets = new Sheet[SHEETS];
    private final int[] refusals = new int[ERRORS + 1];
    private int images;

    public AlikeTown() {
        for (int i = 0; i < SHEETS; i++) {
            sheets[i] = new Sheet();
        }
    }

    // ---- the town

    public int town(int rows, int columns, int shape) {
        if (!isWithin(rows, 1, MOST_LINE) || !isWithin(columns, 1, MOST_LINE) || !isWithin(shape, 0, 2)) {
            return refuse(BEYOND);
        }
        state.town.lay(rows, columns, shape);
        return state.town.lots;
    }

    public int rule(int what, int v) {
        if (!isWithin(what, 0, 1) || !isWithin(v, 0, MARKS)) {
            return refuse(BEYOND);
        }
        Town town = state.town;
        if (what == 0 ? v > town.most : v < town.least) {
            return refuse(STATE);
        }
        int was = what == 0 ? town.least : town.most;
        if (what == 0) {
            town.least = v;
        } else {
            town.most = v;
        }
        return was;
    }

    public int build(int lot, int km, int house) {
        int why = whyNotBuilt(lot, km, house);
        if (why != 0) {
            return refuse(why);
        }
        state.town.place(lot, km / 10, km % 10, Marks.codeOf(house));
        return state.town.houses();
    }

    public int pull(int lot) {
        if (!isLot(lot)) {
            return refuse(BEYOND);
        }
        if (isEmpty(lot)) {
            return refuse(NONE);
        }
        state.town.kinds[lot] = EMPTY;
        return Marks.numberOf(state.town.codes[lot]);
    }

    public int ofLot(int lot, int what) {
        if (!isLot(lot) || !isWithin(what, 0, 11)) {
            return refuse(BEYOND);
        }
        if (what == 0) {
            return isEmpty(lot) ? 0 : 1;
        }
        if (isEmpty(lot)) {
            return refuse(NONE);
        }
        Town town = state.town;
        if (what == 1) {
            return town.kinds[lot];
        }
        if (what == 2) {
            return town.ms[lot];
        }
        if (what < 7) {
            return Marks.sortAt(town.codes[lot], what - 3);
        }
        return what < 11 ? state.costOf(lot, what - 7) : state.worthOf(town.codes[lot]);
    }

    public int become(int lot, int km) {
        if (!isLot(lot) || !isKindAndM(km)) {
            return refuse(BEYOND);
        }
        if (isEmpty(lot)) {
            return refuse(NONE);
        }
        int was = state.town.kinds[lot];
        state.town.kinds[lot] = km / 10;
        state.town.ms[lot] = km % 10;
        return was;
    }

    public int as(int lot, int kind) {
        if (!isLot(lot) || !isWithin(kind, 0, KINDS - 1)) {
            return refuse(BEYOND);
        }
        if (isEmpty(lot)) {
            return refuse(NONE);
        }
        if (!Voices.isUnder(state.town.kinds[lot], kind)) {
            return refuse(KIND);
        }
        return state.town.ms[lot];
    }

    public int paint(int lot, int mark, int sort) {
        if (!isLot(lot) || !isMarkAndSort(mark, sort)) {
            return refuse(BEYOND);
        }
        if (isEmpty(lot)) {
            return refuse(NONE);
        }
        Town town = state.town;
        if (!town.canChange(lot, mark, sort)) {
            return refuse(STATE);
        }
        int code = Marks.withSort(town.codes[lot], mark, sort);
        if (!town.mayStand(lot, code)) {
            return refuse(KIND);
        }
        state.change(lot, mark, sort);
        return state.spent;
    }

    public int alike(int lot, int other) {
        if (!isLot(lot) || !isLot(other)) {
            return refuse(BEYOND);
        }
        if (isEmpty(lot) || isEmpty(other)) {
            return refuse(NONE);
        }
        return Marks.alikeOf(state.town.codes[lot], state.town.codes[other]);
    }

    // ---- what may be, what is wrong

    public int may(int lot, int what) {
        if (!isLot(lot) || what < -1) {
            return refuse(BEYOND);
        }
        if (what == -1) {
            return state.town.howManyMay(lot);
        }
        int house = state.town.standerAt(lot, what);
        return house == NOTHING ? refuse(NONE) : house;
    }

    public int wrong(int what) {
        if (what < -1) {
            return refuse(BEYOND);
        }
        int size = state.town.listWrong();
        if (what == -1) {
            return size;
        }
        return what < size ? state.town.pairs[what] : refuse(NONE);
    }

    // ---- texts

    public int feed(long word, int n) {
        if (!isWithin(n, 1, 8)) {
            return refuse(BEYOND);
        }
        if (state.bytes + n > MOST_BYTES) {
            return refuse(FULL);
        }
        for (int i = 0; i < n; i++) {
            state.tape[state.bytes + i] = (int) (word >>> (8 * i)) & 255;
        }
        state.bytes += n;
        return state.bytes;
    }

    public int text(int use) {
        if (!isWithin(use, 0, USES - 1)) {
            return refuse(BEYOND);
        }
        int fault = reader.faultOf(state.tape, state.bytes, use);
        state.bytes = 0;
        if (fault != NOTHING) {
            return -10 - fault;
        }
        state.texts[use].take(reader.draft);
        return 1;
    }

    public int law(int use, int a, int b, int c, int d) {
        if (!isWithin(use, 0, USES - 1)) {
            return refuse(BEYOND);
        }
        return use == COST ? state.costText(a, b) : state.worthText(a, b, c, d);
    }

    // ---- wishes

    public int wish(int lot, int mark, int sort, int what) {
        if (!isLot(lot) || !isMarkAndSort(mark, sort) || !isWithin(what, 0, 1)) {
            return refuse(BEYOND);
        }
        if (isEmpty(lot)) {
            return refuse(NONE);
        }
        int fewest = mender.fewestFor(state, lot, mark, sort);
        if (fewest == NOTHING) {
            return refuse(NONE);
        }
        return what == 0 ? fewest : mender.cost;
    }

    public int steps(int lot, int mark, int sort) {
        if (!isLot(lot) || !isMarkAndSort(mark, sort)) {
            return refuse(BEYOND);
        }
        if (isEmpty(lot)) {
            return refuse(NONE);
        }
        if (state.town.listWrong() > 0) {
            return refuse(STATE);
        }
        int least = stepper.leastFor(state.town, lot, mark, sort);
        return least == NOTHING ? refuse(NONE) : least;
    }

    public int right() {
        int fewest = mender.fewestOf(state);
        return fewest == NOTHING ? refuse(NONE) : fewest;
    }

    // ---- counts

    public long rows(int n) {
        if (!isWithin(n, 1, MOST_ROW)) {
            return refuse(BEYOND);
        }
        long many = HOUSES;
        for (int i = 1; i < n; i++) {
            many *= state.town.howManyGo();
        }
        return many;
    }

    public long rings(int n) {
        if (!isWithin(n, LEAST_RING, MOST_ROW)) {
            return refuse(BEYOND);
        }
        return ways.ofRings(state.town, n);
    }

    public long before() {
        if (state.town.rows != 1 || state.town.lots > MOST_ROW) {
            return refuse(STATE);
        }
        return ways.ofBefore(state.town);
    }

    public int drawn(int sheet) {
        if (!isSheet(sheet)) {
            return refuse(BEYOND);
        }
        Sheet to = sheets[sheet];
        int many = state.town.howManyGo();
        if (to.isMissing() || many == 0) {
            return refuse(NONE);
        }
        int house = 0;
        for (int i = 0; i < to.size; i++) {
            house = i == 0 ? state.draw() % HOUSES : state.town.goerAt(house, state.draw() % many);
            to.set(i, house);
        }
        return to.size;
    }

    // ---- storms, filling, worth, years

    public int storm(int mark, int sort) {
        if (!isMarkAndSort(mark, sort)) {
            return refuse(BEYOND);
        }
        return state.town.blow(mark, sort);
    }

    public int harm(int mark, int sort) {
        if (!isMarkAndSort(mark, sort)) {
            return refuse(BEYOND);
        }
        return state.town.wrongBehind(mark, sort);
    }

    public int worst() {
        int worst = 0;
        int most = NOTHING;
        for (int i = 0; i < MARKS * SORTS; i++) {
            int harm = state.town.wrongBehind(i / SORTS, i % SORTS);
            if (harm > most) {
                most = harm;
                worst = i;
            }
        }
        return worst;
    }

    public int fill() {
        int why = filler.whyNotFilled(state.town);
        return why == 0 ? filler.size : refuse(why);
    }

    public int worth() {
        int sum = 0;
        for (int lot = 0; lot < state.town.lots; lot++) {
            if (!isEmpty(lot)) {
                sum += state.worthOf(state.town.codes[lot]);
            }
        }
        return sum;
    }

    public int pays(int what) {
        if (!isWithin(what, 0, 1)) {
            return refuse(BEYOND);
        }
        int wrong = state.town.listWrong();
        int best = NOTHING;
        int most = 0;
        for (int i = 0; i < state.town.lots * MARKS * SORTS; i++) {
            int lot = i / (MARKS * SORTS);
            int mark = i / SORTS % MARKS;
            if (state.town.isLawfulBehind(lot, mark, i % SORTS, wrong)) {
                int gain = state.gainBy(lot, mark, i % SORTS);
                if (best == NOTHING || gain > most) {
                    best = i;
                    most = gain;
                }
            }
        }
        if (best == NOTHING) {
            return refuse(NONE);
        }
        return what == 0 ? best : most;
    }

    public int years(int n) {
        if (!isWithin(n, 1, MOST_YEARS)) {
            return refuse(BEYOND);
        }
        if (state.year + n > MOST_YEAR) {
            return refuse(STATE);
        }
        return state.live(n);
    }

    // ---- draws, voices, sheets, images, what is told

    public int seed(int v) {
        int was = state.z;
        state.z = v;
        return was;
    }

    public int voice(int lot, int act, int x) {
        if (!isLot(lot) || !isWithin(act, 0, Voices.ACTS - 1)) {
            return refuse(BEYOND);
        }
        if (isEmpty(lot)) {
            return refuse(NONE);
        }
        return voices.ofHouse(state.town, lot, act, x);
    }

    public int trace(int i) {
        return isWithin(i, 0, voices.size - 1) ? voices.bodies[i] : refuse(NONE);
    }

    public int sheet(int sheet, int bits, int n) {
        if (!isSheet(sheet) || (bits != 0 && bits != 8 && bits != 16 && bits != 32)) {
            return refuse(BEYOND);
        }
        if (bits != 0 && n < 0) {
            return refuse(STATE);
        }
        if (bits != 0 && n > MOST_NUMBERS) {
            return refuse(BEYOND);
        }
        sheets[sheet].begin(bits, bits == 0 ? 0 : n);
        return 1;
    }

    public int put(int sheet, int i, int v) {
        if (!isSheet(sheet)) {
            return refuse(BEYOND);
        }
        if (sheets[sheet].isMissing()) {
            return refuse(NONE);
        }
        if (!isWithin(i, 0, sheets[sheet].size - 1)) {
            return refuse(BEYOND);
        }
        sheets[sheet].set(i, v);
        return 1;
    }

    public int move(int sheet, int i, int other, int j, int n) {
        if (!isSheet(sheet) || !isSheet(other)) {
            return refuse(BEYOND);
        }
        Sheet from = sheets[sheet];
        Sheet to = sheets[other];
        if (from.isMissing() || to.isMissing()) {
            return refuse(NONE);
        }
        if (from.bits != to.bits) {
            return refuse(KIND);
        }
        if (!from.has(i, n) || !to.has(j, n)) {
            return refuse(BEYOND);
        }
        System.arraycopy(from.numbers, i, to.numbers, j, n);
        return n;
    }

    public int builds(int sheet) {
        if (!isSheet(sheet)) {
            return refuse(BEYOND);
        }
        Sheet from = sheets[sheet];
        if (from.isMissing()) {
            return refuse(NONE);
        }
        for (int i = 0; i < from.size; i++) {
            if (whyNotBuilt(i, 0, from.numbers[i]) != 0) {
                return i;
            }
            state.town.place(i, 0, 0, Marks.codeOf(from.numbers[i]));
        }
        return from.size;
    }

    public int judge(int sheet) {
        if (!isSheet(sheet)) {
            return refuse(BEYOND);
        }
        Sheet of = sheets[sheet];
        if (of.isMissing()) {
            return refuse(NONE);
        }
        int lots = state.town.lots;
        for (int i = 0; i < of.size && i < lots; i++) {
            if (!state.town.isTold(i, of.numbers[i])) {
                return i;
            }
        }
        return of.size == lots ? -1 : Math.min(of.size, lots);
    }

    public int image() {
        kept.take(state);
        images++;
        return images;
    }

    public int restore() {
        if (images == 0) {
            return refuse(NONE);
        }
        state.take(kept);
        return state.year;
    }

    public int tell(int v) {
        if (state.waits >= MOST_WAITING) {
            return refuse(FULL);
        }
        state.waiting[state.waits] = v;
        state.waits++;
        return state.waits;
    }

    public int check() {
        int many = state.waits;
        state.waits = 0;
        for (int i = 0; i < many; i++) {
            if (i >= state.town.lots || state.town.howManyMay(i) != state.waiting[i]) {
                return 1 + i;
            }
        }
        return 0;
    }

    public int count(int what) {
        switch (what) {
            case 0: return state.town.rows;
            case 1: return state.town.columns;
            case 2: return state.town.shape;
            case 3: return state.town.least;
            case 4: return state.town.most;
            case 5: return state.town.houses();
            case 6: return state.year;
            case 7: return state.spent;
            case 8: return state.bytes;
            case 9: return state.waits;
            case 10: return voices.size;
            case 11: return state.z;
            default: return refuse(BEYOND);
        }
    }

    public int told(int k) {
        return isWithin(k, 1, ERRORS) ? refusals[k] : refuse(BEYOND);
    }

    // ---- what the acts ask of their arguments

    private int refuse(int why) {
        refusals[why]++;
        return LOW - why;
    }

    private static boolean isWithin(int v, int least, int most) {
        return v >= least && v <= most;
    }

    private boolean isLot(int lot) {
        return isWithin(lot, 0, state.town.lots - 1);
    }

    private boolean isEmpty(int lot) {
        return state.town.kinds[lot] == EMPTY;
    }

    private static boolean isMarkAndSort(int mark, int sort) {
        return isWithin(mark, 0, MARKS - 1) && isWithin(sort, 0, SORTS - 1);
    }

    private static boolean isKindAndM(int km) {
        return isWithin(km, 0, 10 * KINDS - 1);
    }

    private static boolean isSheet(int sheet) {
        return isWithin(sheet, 0, SHEETS - 1);
    }

    /** The ERROR by which a HOUSE can't be built; 0: it can be. */
    private int whyNotBuilt(int lot, int km, int house) {
        if (!isLot(lot) || !isKindAndM(km) || !isWithin(house, 0, HOUSES - 1)) {
            return BEYOND;
        }
        if (!isEmpty(lot)) {
            return STATE;
        }
        boolean isFree = km / 10 == CHURCH || state.town.mayStand(lot, Marks.codeOf(house));
        return isFree ? 0 : KIND;
    }

    /** All that an IMAGE keeps. */
    private static final class State {
        final Town town = new Town();
        final Text[] texts = new Text[USES];
        final int[] tape = new int[MOST_BYTES];
        final int[] waiting = new int[MOST_WAITING];
        int bytes;
        int waits;
        int year;
        int spent;
        int z = 1;

        State() {
            for (int i = 0; i < USES; i++) {
                texts[i] = new Text();
            }
        }

        void take(State from) {
            town.take(from.town);
            for (int i = 0; i < USES; i++) {
                texts[i].take(from.texts[i]);
            }
            System.arraycopy(from.tape, 0, tape, 0, MOST_BYTES);
            System.arraycopy(from.waiting, 0, waiting, 0, MOST_WAITING);
            bytes = from.bytes;
            waits = from.waits;
            year = from.year;
            spent = from.spent;
            z = from.z;
        }

        int draw() {
            z = z * 1103515245 + 12345;
            return z >>> 8;
        }

        int costText(int k, int m) {
            int cost = texts[COST].isMissing() ? 10 + m : texts[COST].value(k, m, 0, 0);
            return Math.max(0, Math.min(MOST_COST, cost));
        }

        int worthText(int c, int r, int d, int v) {
            if (texts[WORTH].isMissing()) {
                return 0;
            }
            return Math.max(-MOST_WORTH, Math.min(MOST_WORTH, texts[WORTH].value(c, r, d, v)));
        }

        /** COST of a CHANGE of a MARK of the HOUSE in a LOT; -1: it can't be. */
        int costOf(int lot, int mark) {
            int m = town.ms[lot];
            switch (town.kinds[lot]) {
                case FREE: return costText(mark, m) / 2;
                case HELD: return costText(mark, m) * 2;
                case NEW: return m;
                case LINKED: return costText(mark, m) / 2 + 5;
                case CHURCH: return -1;
                case BOUGHT: return Math.max(0, m - 3);
                default: return costText(mark, m);
            }
        }

        int worthOf(int code) {
            return worthText(Marks.sortAt(code, 0), Marks.sortAt(code, 1), Marks.sortAt(code, 2), Marks.sortAt(code, 3));
        }

        int gainBy(int lot, int mark, int sort) {
            int code = town.codes[lot];
            return worthOf(Marks.withSort(code, mark, sort)) - worthOf(code) - costOf(lot, mark);
        }

        void change(int lot, int mark, int sort) {
            spent = Math.min(MOST_SPENT, spent + costOf(lot, mark));
            town.codes[lot] = Marks.withSort(town.codes[lot], mark, sort);
        }

        /** In how many of n YEARS something was CHANGED. */
        int live(int n) {
            int changed = 0;
            int wrong = town.listWrong();
            for (int i = 0; i < n; i++) {
                int lot = draw() % town.lots;
                int mark = draw() % MARKS;
                int sort = draw() % SORTS;
                if (town.isLawfulBehind(lot, mark, sort, wrong)) {
                    change(lot, mark, sort);
                    changed++;
                    wrong = 0;
                }
            }
            year += n;
            return changed;
        }
    }

    /**
     * The MARKS of a HOUSE as a code: two bits a MARK, colour lowest, so that two HOUSES are compared in all
     * MARKS at once.
     */
    private static final class Marks {
        private static final int LOW_BITS = 0x55;

        static int codeOf(int house) {
            return house / 27 | house / 9 % 3 << 2 | house / 3 % 3 << 4 | house % 3 << 6;
        }

        static int sortAt(int code, int mark) {
            return code >> 2 * mark & 3;
        }

        static int withSort(int code, int mark, int sort) {
            return code & ~(3 << 2 * mark) | sort << 2 * mark;
        }

        /** The number of a HOUSE, in which a BLANK MARK counts as SORT 0. */
        static int numberOf(int code) {
            int number = 0;
            for (int mark = 0; mark < MARKS; mark++) {
                number = 3 * number + sortAt(code, mark) % BLANK;
            }
            return number;
        }

        static int blanksOf(int code) {
            return code & code >> 1 & LOW_BITS;
        }

        static int alikeOf(int code, int other) {
            int differ = code ^ other;
            int unlike = differ | differ >> 1 | code & code >> 1;
            return MARKS - Integer.bitCount(unlike & LOW_BITS);
        }
    }

    /** THE TOWN's LOTS with THE LAW, and what stands in them. */
    private static final class Town {
        final int[] kinds = new int[MOST_LOTS];
        final int[] ms = new int[MOST_LOTS];
        final int[] codes = new int[MOST_LOTS];
        /** For each LOT those SIDE BY SIDE with it, the least first. */
        final int[] sides = new int[MOST_LOTS * MOST_SIDES];
        final int[] sideCounts = new int[MOST_LOTS];
        /** The WRONG pairs that listWrong() found last. */
        final int[] pairs = new int[MOST_PAIRS];
        private final int[] calm = new int[MOST_LOTS];
        int rows;
        int columns;
        int shape;
        int lots;
        int least = 1;
        int most = 1;

        Town() {
            lay(1, 4, 0);
        }

        void lay(int newRows, int newColumns, int newShape) {
            rows = newRows;
            columns = newColumns;
            shape = newShape;
            lots = rows * columns;
            for (int lot = 0; lot < lots; lot++) {
                kinds[lot] = EMPTY;
                sideCounts[lot] = 0;
            }
            for (int row = 0; row < rows; row++) {
                for (int column = 0; column < columns; column++) {
                    joinOnwards(row, column);
                }
            }
        }

        /** Joins a LOT with the next one in its row and in its column, or with the first one there. */
        private void joinOnwards(int row, int column) {
            int lot = row * columns + column;
            if (column + 1 < columns) {
                join(lot, lot + 1);
            } else if (shape > 0 && columns >= WRAP_FROM) {
                join(lot, lot - column);
            }
            if (row + 1 < rows) {
                join(lot, lot + columns);
            } else if (shape == 2 && rows >= WRAP_FROM) {
                join(lot, column);
            }
        }

        private void join(int lot, int other) {
            addSide(lot, other);
            addSide(other, lot);
        }

        private void addSide(int lot, int other) {
            int first = lot * MOST_SIDES;
            int at = sideCounts[lot];
            if (at >= MOST_SIDES) {
                return;
            }
            while (at > 0 && sides[first + at - 1] > other) {
                sides[first + at] = sides[first + at - 1];
                at--;
            }
            sides[first + at] = other;
            sideCounts[lot]++;
        }

        void take(Town from) {
            System.arraycopy(from.kinds, 0, kinds, 0, MOST_LOTS);
            System.arraycopy(from.ms, 0, ms, 0, MOST_LOTS);
            System.arraycopy(from.codes, 0, codes, 0, MOST_LOTS);
            System.arraycopy(from.sides, 0, sides, 0, MOST_LOTS * MOST_SIDES);
            System.arraycopy(from.sideCounts, 0, sideCounts, 0, MOST_LOTS);
            rows = from.rows;
            columns = from.columns;
            shape = from.shape;
            lots = from.lots;
            least = from.least;
            most = from.most;
        }

        void place(int lot, int kind, int m, int code) {
            kinds[lot] = kind;
            ms[lot] = m;
            codes[lot] = code;
        }

        int houses() {
            int many = 0;
            for (int lot = 0; lot < lots; lot++) {
                if (kinds[lot] != EMPTY) {
                    many++;
                }
            }
            return many;
        }

        boolean isTold(int lot, int number) {
            if (kinds[lot] == EMPTY) {
                return number == -1;
            }
            return Marks.blanksOf(codes[lot]) == 0 && Marks.numberOf(codes[lot]) == number;
        }

        boolean isBound(int lot) {
            return kinds[lot] != EMPTY && kinds[lot] != CHURCH;
        }

        boolean canChange(int lot, int mark, int sort) {
            return kinds[lot] != EMPTY && kinds[lot] != CHURCH && Marks.sortAt(codes[lot], mark) != sort;
        }

        boolean doGo(int code, int other) {
            int alike = Marks.alikeOf(code, other);
            return alike >= least && alike <= most;
        }

        boolean isWrong(int lot, int other) {
            return isBound(lot) && isBound(other) && !doGo(codes[lot], codes[other]);
        }

        /** Whether all pairs of a LOT are LAWFUL with a BOUND HOUSE of these MARKS in it. */
        boolean mayStand(int lot, int code) {
            int first = lot * MOST_SIDES;
            for (int i = 0; i < sideCounts[lot]; i++) {
                int side = sides[first + i];
                if (isBound(side) && !doGo(code, codes[side])) {
                    return false;
                }
            }
            return true;
        }

        int howManyMay(int lot) {
            int many = 0;
            for (int house = 0; house < HOUSES; house++) {
                if (mayStand(lot, Marks.codeOf(house))) {
                    many++;
                }
            }
            return many;
        }

        int standerAt(int lot, int i) {
            int left = i;
            for (int house = 0; house < HOUSES; house++) {
                if (mayStand(lot, Marks.codeOf(house))) {
                    if (left == 0) {
                        return house;
                    }
                    left--;
                }
            }
            return NOTHING;
        }

        /** How many HOUSES go with one by THE LAW: with each just as many. */
        int howManyGo() {
            int many = 0;
            for (int other = 0; other < HOUSES; other++) {
                if (doGo(Marks.codeOf(0), Marks.codeOf(other))) {
                    many++;
                }
            }
            return many;
        }

        /** The i-th of the HOUSES that go with one by THE LAW. */
        int goerAt(int house, int i) {
            int code = Marks.codeOf(house);
            int left = i;
            for (int other = 0; other < HOUSES; other++) {
                if (doGo(code, Marks.codeOf(other))) {
                    if (left == 0) {
                        return other;
                    }
                    left--;
                }
            }
            return 0;
        }

        /** Lists the WRONG pairs in their order: how many there are. */
        int listWrong() {
            int size = 0;
            for (int lot = 0; lot < lots; lot++) {
                for (int i = 0; i < sideCounts[lot]; i++) {
                    int other = sides[lot * MOST_SIDES + i];
                    if (other > lot && size < MOST_PAIRS && isWrong(lot, other)) {
                        pairs[size] = MOST_LOTS * lot + other;
                        size++;
                    }
                }
            }
            return size;
        }

        int howManyWrongAt(int lot) {
            int many = 0;
            for (int i = 0; i < sideCounts[lot]; i++) {
                if (isWrong(lot, sides[lot * MOST_SIDES + i])) {
                    many++;
                }
            }
            return many;
        }

        /** Whether a CHANGE can be and THE TOWN, that has so many WRONG pairs now, is LAWFUL behind it. */
        boolean isLawfulBehind(int lot, int mark, int sort, int wrong) {
            return canChange(lot, mark, sort)
                && (wrong == 0 || howManyWrongAt(lot) == wrong)
                && mayStand(lot, Marks.withSort(codes[lot], mark, sort));
        }

        /** A STORM: how many HOUSES it took something of. */
        int blow(int mark, int sort) {
            int many = 0;
            for (int lot = 0; lot < lots; lot++) {
                if (isBound(lot) && Marks.sortAt(codes[lot], mark) == sort) {
                    codes[lot] = Marks.withSort(codes[lot], mark, BLANK);
                    many++;
                }
            }
            return many;
        }

        /** HARM of a STORM. */
        int wrongBehind(int mark, int sort) {
            System.arraycopy(codes, 0, calm, 0, MOST_LOTS);
            blow(mark, sort);
            int many = listWrong();
            System.arraycopy(calm, 0, codes, 0, MOST_LOTS);
            return many;
        }
    }

    /** A TEXT as a row of parts, each operator behind what it works on; without parts there is none. */
    private static final class Text {
        static final int NAME = 10000;
        static final int OPERATOR = 20000;

        private final int[] parts = new int[MOST_BYTES];
        private final int[] stack = new int[MOST_BYTES + 1];
        private int size;

        boolean isMissing() {
            return size == 0;
        }

        void clear() {
            size = 0;
        }

        void add(int part) {
            if (size < MOST_BYTES) {
                parts[size] = part;
                size++;
            }
        }

        void take(Text from) {
            System.arraycopy(from.parts, 0, parts, 0, MOST_BYTES);
            size = from.size;
        }

        int value(int a, int b, int c, int d) {
            int top = -1;
            for (int i = 0; i < size; i++) {
                int part = parts[i];
                if (part < OPERATOR) {
                    top++;
                    stack[top] = part < NAME ? part : named(part - NAME, a, b, c, d);
                } else if (part == OPERATOR + '!' && top >= 0) {
                    stack[top] = stack[top] == 0 ? 1 : 0;
                } else if (top > 0) {
                    top--;
                    stack[top] = worked(part - OPERATOR, stack[top], stack[top + 1]);
                }
            }
            return stack[0];
        }

        private static int named(int name, int a, int b, int c, int d) {
            switch (name) {
                case 0: return a;
                case 1: return b;
                case 2: return c;
                default: return d;
            }
        }

        private static int worked(int sign, int a, int b) {
            switch (sign) {
                case '|': return a != 0 || b != 0 ? 1 : 0;
                case '&': return a != 0 && b != 0 ? 1 : 0;
                case '<': return a < b ? 1 : 0;
                case '=': return a == b ? 1 : 0;
                case '>': return a > b ? 1 : 0;
                case '+': return a + b;
                case '-': return a - b;
                case '*': return a * b;
                case '/': return b == 0 ? 0 : a / b;
                default: return b == 0 ? 0 : a % b;
            }
        }
    }

    /** Reads THE TAPE as a TEXT. */
    private static final class Reader {
        private static final int COMPARISON = 2;
        private static final int ATOM = 5;
        private static final int MOST_OPEN = 5;
        private static final int MOST_DIGITS = 4;

        final Text draft = new Text();
        private int[] tape;
        private int bytes;
        private int at;
        private int use;

        /** FAULT of a TEXT of a USE; -1: it has none, and is the draft. */
        int faultOf(int[] newTape, int newBytes, int newUse) {
            tape = newTape;
            bytes = newBytes;
            use = newUse;
            at = 0;
            draft.clear();
            return readLevel(0, 0) && at == bytes ? NOTHING : at;
        }

        private int here() {
            return at < bytes ? tape[at] : NOTHING;
        }

        /** Reads a T (level 0), A, B, S, P or Q (level 5), in so many ! and ( that are open. */
        private boolean readLevel(int level, int open) {
            if (level >= ATOM) {
                return readAtom(open);
            }
            if (!readLevel(level + 1, open)) {
                return false;
            }
            int most = level == COMPARISON ? 1 : MOST_BYTES;
            for (int i = 0; i < most && isSign(level, here()); i++) {
                int sign = here();
                at++;
                if (!readLevel(level + 1, open)) {
                    return false;
                }
                draft.add(Text.OPERATOR + sign);
            }
            return true;
        }

        private static boolean isSign(int level, int sign) {
            switch (level) {
                case 0: return sign == '|';
                case 1: return sign == '&';
                case COMPARISON: return sign == '<' || sign == '=' || sign == '>';
                case 3: return sign == '+' || sign == '-';
                default: return sign == '*' || sign == '/' || sign == '%';
            }
        }

        private boolean readAtom(int open) {
            int sign = here();
            if (isDigit(sign)) {
                readNumber();
                return true;
            }
            int name = nameOf(sign);
            if (name != NOTHING) {
                draft.add(Text.NAME + name);
                at++;
                return true;
            }
            if ((sign != '!' && sign != '(') || open >= MOST_OPEN) {
                return false;
            }
            at++;
            return sign == '!' ? readNot(open + 1) : readInner(open + 1);
        }

        private boolean readNot(int open) {
            if (!readAtom(open)) {
                return false;
            }
            draft.add(Text.OPERATOR + '!');
            return true;
        }

        private boolean readInner(int open) {
            if (!readLevel(0, open) || here() != ')') {
                return false;
            }
            at++;
            return true;
        }

        private void readNumber() {
            int number = 0;
            for (int i = 0; i < MOST_DIGITS && isDigit(here()); i++) {
                number = 10 * number + here() - '0';
                at++;
            }
            draft.add(number);
        }

        private static boolean isDigit(int sign) {
            return sign >= '0' && sign <= '9';
        }

        private int nameOf(int sign) {
            switch (sign) {
                case 'k': return use == COST ? 0 : NOTHING;
                case 'm': return use == COST ? 1 : NOTHING;
                case 'c': return use == WORTH ? 0 : NOTHING;
                case 'r': return use == WORTH ? 1 : NOTHING;
                case 'd': return use == WORTH ? 2 : NOTHING;
                case 'v': return use == WORTH ? 3 : NOTHING;
                default: return NOTHING;
            }
        }
    }

    /**
     * Finds the fewest CHANGES by which a WISH comes true or THE TOWN is LAWFUL, and the cheapest of these.
     *
     * As long as a pair is WRONG, one of its two HOUSES must be CHANGED in a MARK in which they are alike (if
     * they are alike in too many) or are not (if in too few): so only these CHANGES are tried, and a MARK that
     * was tried once is left alone in the tries beside it.
     */
    private static final class Mender {
        private final int[][] wrong = new int[MOST_CHANGES + 1][MOST_PAIRS];
        private final int[] sizes = new int[MOST_CHANGES + 1];
        /** For each LOT the MARKS, a bit each, that can't be CHANGED any more. */
        private final int[] locks = new int[MOST_LOTS];
        private State state;
        private Town town;
        /** COST of the cheapest of the fewest CHANGES that were found last. */
        int cost;

        /** FEWEST of a WISH; -1: not by 4. */
        int fewestFor(State of, int lot, int mark, int sort) {
            begin(of);
            locks[lot] = 1 << mark;
            int was = town.codes[lot];
            if (Marks.sortAt(was, mark) == sort) {
                return fewestMore(0);
            }
            if (!town.canChange(lot, mark, sort)) {
                return NOTHING;
            }
            town.codes[lot] = Marks.withSort(was, mark, sort);
            int fewest = fewestMore(1);
            town.codes[lot] = was;
            cost += of.costOf(lot, mark);
            return fewest;
        }

        /** RIGHT; -1: not by 4. */
        int fewestOf(State of) {
            begin(of);
            return fewestMore(0);
        }

        private void begin(State of) {
            state = of;
            town = of.town;
            for (int lot = 0; lot < MOST_LOTS; lot++) {
                locks[lot] = 0;
            }
        }

        /** How many CHANGES there are, with those that are done, at least. */
        private int fewestMore(int done) {
            sizes[0] = town.listWrong();
            System.arraycopy(town.pairs, 0, wrong[0], 0, sizes[0]);
            for (int more = 0; done + more <= MOST_CHANGES; more++) {
                cost = cheapest(0, more);
                if (cost != NOTHING) {
                    return done + more;
                }
            }
            return NOTHING;
        }

        /** The least COST by which so many CHANGES more put right what is wrong at a depth; -1: none do. */
        private int cheapest(int depth, int left) {
            if (sizes[depth] == 0) {
                return 0;
            }
            if (left <= 0 || depth >= MOST_CHANGES || needed(depth) > left) {
                return NOTHING;
            }
            int lot = wrong[depth][0] / MOST_LOTS;
            int other = wrong[depth][0] % MOST_LOTS;
            int locked = locks[lot];
            int otherLocked = locks[other];
            int same = sameMarks(town.codes[lot], town.codes[other]);
            int open = Integer.bitCount(same) < town.least ? ~same : same;
            int best = NOTHING;
            for (int mark = 0; mark < MARKS; mark++) {
                if ((open >> mark & 1) != 0) {
                    best = lesser(best, cheapestBy(lot, mark, depth, left));
                    best = lesser(best, cheapestBy(other, mark, depth, left));
                }
            }
            locks[lot] = locked;
            locks[other] = otherLocked;
            return best;
        }

        /** The same, if the next CHANGE is one of a MARK, which is locked then. */
        private int cheapestBy(int lot, int mark, int depth, int left) {
            if ((locks[lot] >> mark & 1) != 0) {
                return NOTHING;
            }
            locks[lot] |= 1 << mark;
            int was = town.codes[lot];
            int best = NOTHING;
            for (int sort = 0; sort < SORTS; sort++) {
                if (sort != Marks.sortAt(was, mark)) {
                    town.codes[lot] = Marks.withSort(was, mark, sort);
                    listBehind(depth, lot);
                    best = lesser(best, cheapest(depth + 1, left - 1));
                }
            }
            town.codes[lot] = was;
            return best == NOTHING ? NOTHING : best + state.costOf(lot, mark);
        }

        /** What is wrong at the next depth, the HOUSE in a LOT being CHANGED. */
        private void listBehind(int depth, int lot) {
            int[] from = wrong[depth];
            int[] to = wrong[depth + 1];
            int size = 0;
            for (int i = 0; i < sizes[depth]; i++) {
                if (from[i] / MOST_LOTS != lot && from[i] % MOST_LOTS != lot) {
                    to[size] = from[i];
                    size++;
                }
            }
            for (int i = 0; i < town.sideCounts[lot]; i++) {
                int side = town.sides[lot * MOST_SIDES + i];
                if (size < MOST_PAIRS && town.isWrong(lot, side)) {
                    to[size] = MOST_LOTS * lot + side;
                    size++;
                }
            }
            sizes[depth + 1] = size;
        }

        /**
         * A number of CHANGES that no fewer can do: one brings a pair nearer to THE LAW by 1 at most, and
         * those of pairs that share no LOT are others.
         */
        private int needed(int depth) {
            int changes = (sizes[depth] + MOST_SIDES - 1) / MOST_SIDES;
            int apart = 0;
            long taken = 0;
            for (int i = 0; i < sizes[depth]; i++) {
                int lot = wrong[depth][i] / MOST_LOTS;
                int other = wrong[depth][i] % MOST_LOTS;
                long both = 1L << lot | 1L << other;
                if ((taken & both) == 0) {
                    taken |= both;
                    int alike = Marks.alikeOf(town.codes[lot], town.codes[other]);
                    apart += Math.max(town.least - alike, alike - town.most);
                }
            }
            return Math.max(changes, apart);
        }

        /** The MARKS, a bit each, in which two HOUSES are alike. */
        private static int sameMarks(int code, int other) {
            int same = 0;
            for (int mark = 0; mark < MARKS; mark++) {
                int sort = Marks.sortAt(code, mark);
                if (sort != BLANK && sort == Marks.sortAt(other, mark)) {
                    same |= 1 << mark;
                }
            }
            return same;
        }

        private static int lesser(int cost, int other) {
            if (cost == NOTHING || other == NOTHING) {
                return Math.max(cost, other);
            }
            return Math.min(cost, other);
        }
    }

    /** Finds the STEPS of a WISH in a TOWN that is LAWFUL. */
    private static final class Stepper {
        private final int[] near = new int[MOST_SIDES + 1];
        private Town town;
        private int lot;
        private int mark;
        private int sort;

        int leastFor(Town of, int newLot, int newMark, int newSort) {
            town = of;
            lot = newLot;
            mark = newMark;
            sort = newSort;
            if (Marks.sortAt(town.codes[lot], mark) == sort) {
                return 0;
            }
            if (!town.canChange(lot, mark, sort)) {
                return NOTHING;
            }
            near[0] = lot;
            System.arraycopy(town.sides, lot * MOST_SIDES, near, 1, town.sideCounts[lot]);
            for (int many = 1; many <= MOST_STEPS; many++) {
                if (isReached(many)) {
                    return many;
                }
            }
            return NOTHING;
        }

        /** Whether so many CHANGES do it; THE TOWN is then as it was. */
        private boolean isReached(int left) {
            if (left <= 1) {
                return town.isLawfulBehind(lot, mark, sort, 0);
            }
            for (int i = 0; i <= town.sideCounts[lot]; i++) {
                for (int change = 0; change < MARKS * SORTS; change++) {
                    if (isReachedBy(near[i], change / SORTS, change % SORTS, left)) {
                        return true;
                    }
                }
            }
            return false;
        }

        private boolean isReachedBy(int at, int itsMark, int itsSort, int left) {
            if (!town.isLawfulBehind(at, itsMark, itsSort, 0)) {
                return false;
            }
            int was = town.codes[at];
            town.codes[at] = Marks.withSort(was, itsMark, itsSort);
            boolean isDone = isReached(left - 1);
            town.codes[at] = was;
            return isDone;
        }
    }

    /** Fills EMPTY LOTS. */
    private static final class Filler {
        private final int[] lots = new int[MOST_LOTS];
        /** For each of these LOTS the HOUSE that is looked at next. */
        private final int[] nexts = new int[MOST_LOTS];
        int size;

        /** The ERROR by which THE TOWN isn't FILLED; 0: it is, and size tells how many LOTS were. */
        int whyNotFilled(Town town) {
            listEmpty(town);
            int tries = 0;
            int at = 0;
            for (int turn = 0; turn < MOST_TURNS && at >= 0 && at < size; turn++) {
                int house = nexts[at];
                if (house >= HOUSES) {
                    at = stepBack(town, at);
                } else if (tries >= MOST_TRIES) {
                    clearAll(town);
                    return FULL;
                } else {
                    tries++;
                    nexts[at]++;
                    if (town.mayStand(lots[at], Marks.codeOf(house))) {
                        town.place(lots[at], 0, 0, Marks.codeOf(house));
                        at++;
                        startAt(at);
                    }
                }
            }
            return at < 0 ? NONE : 0;
        }

        private void listEmpty(Town town) {
            size = 0;
            for (int lot = 0; lot < town.lots; lot++) {
                if (town.kinds[lot] == EMPTY) {
                    lots[size] = lot;
                    size++;
                }
            }
            startAt(0);
        }

        private void startAt(int at) {
            if (at < size) {
                nexts[at] = 0;
            }
        }

        /** Empties the LOT ahead, so that its next HOUSE is looked at. */
        private int stepBack(Town town, int at) {
            if (at > 0) {
                town.kinds[lots[at - 1]] = EMPTY;
            }
            return at - 1;
        }

        private void clearAll(Town town) {
            for (int i = 0; i < size; i++) {
                town.kinds[lots[i]] = EMPTY;
            }
        }
    }

    /** Counts ways by going from each LOT's choices of HOUSES to those of the next one. */
    private static final class Ways {
        /** In the place of a LOT: one that may have any HOUSE. */
        private static final int ANY = -1;

        private final int[] codes = new int[HOUSES];
        private long[] ways = new long[HOUSES];
        private long[] nexts = new long[HOUSES];

        Ways() {
            for (int house = 0; house < HOUSES; house++) {
                codes[house] = Marks.codeOf(house);
            }
        }

        /** RINGS of n: with each HOUSE as the first one there are as many. */
        long ofRings(Town town, int n) {
            for (int i = 0; i < HOUSES; i++) {
                ways[i] = i == 0 ? 1 : 0;
            }
            for (int i = 0; i < n; i++) {
                carry(town, ANY, ANY);
            }
            return HOUSES * ways[0];
        }

        /** BEFORE: a ring begins at a HOUSE, so that it can be closed there. */
        long ofBefore(Town town) {
            boolean isRing = town.shape > 0 && town.columns >= WRAP_FROM;
            int first = isRing ? firstHouse(town) : 0;
            if (first == ANY) {
                return ofRings(town, town.lots);
            }
            int lot = first;
            for (int i = 0; i < choices(town, lot); i++) {
                ways[i] = 1;
            }
            int onwards = isRing ? town.lots : town.lots - 1;
            for (int i = 0; i < onwards; i++) {
                int next = lot + 1 < town.lots ? lot + 1 : 0;
                carry(town, lot, next);
                lot = next;
            }
            long many = 0;
            for (int i = 0; i < choices(town, lot); i++) {
                many += ways[i];
            }
            return many;
        }

        private static int firstHouse(Town town) {
            for (int lot = 0; lot < town.lots; lot++) {
                if (town.kinds[lot] != EMPTY) {
                    return lot;
                }
            }
            return ANY;
        }

        private static boolean isOpen(Town town, int lot) {
            return lot == ANY || town.kinds[lot] == EMPTY;
        }

        private static int choices(Town town, int lot) {
            return isOpen(town, lot) ? HOUSES : 1;
        }

        private void carry(Town town, int from, int to) {
            boolean isBound = (isOpen(town, from) || town.isBound(from)) && (isOpen(town, to) || town.isBound(to));
            for (int i = 0; i < choices(town, to); i++) {
                nexts[i] = waysTo(town, from, isOpen(town, to) ? codes[i] : town.codes[to], isBound);
            }
            long[] done = ways;
            ways = nexts;
            nexts = done;
        }

        private long waysTo(Town town, int from, int code, boolean isBound) {
            boolean isOpen = isOpen(town, from);
            int many = isOpen ? HOUSES : 1;
            long sum = 0;
            for (int i = 0; i < many; i++) {
                if (!isBound || town.doGo(isOpen ? codes[i] : town.codes[from], code)) {
                    sum += ways[i];
                }
            }
            return sum;
        }
    }

    /** The VOICES of HOUSES, and THE TRACE of the latest one. */
    private static final class Voices {
        static final int ACTS = 4;
        private static final int STANDS = 0;
        private static final int PAINTS = 1;
        private static final int TURNS = 2;
        private static final int TELLS = 3;
        private static final int MOST_DEPTH = 40;
        private static final int MOST_BODIES = 40;

        /** For each KIND the one above it: FREE, HELD and NEW have LINKED, CHURCH and BOUGHT under them. */
        private static final int[] ABOVE = {-1, 0, 0, 0, 1, 2, 3};

        /** For each KIND the numbers of its own BODIES of the four acts; 0: it has none. */
        private static final int[] OWN = {
            10, 11, 12, 13,
            0, 20, 0, 0,
            30, 0, 0, 0,
            0, 0, 40, 0,
            0, 50, 0, 0,
            0, 0, 0, 60,
            0, 0, 70, 71,
        };

        final int[] bodies = new int[MOST_BODIES];
        int size;
        private int kind;
        private int n;
        private int m;

        /** Whether a KIND is another one, or under it. */
        static boolean isUnder(int kind, int other) {
            int at = kind;
            for (int i = 0; i < KINDS && at >= 0; i++) {
                if (at == other) {
                    return true;
                }
                at = ABOVE[at];
            }
            return false;
        }

        int ofHouse(Town town, int lot, int act, int x) {
            kind = town.kinds[lot];
            n = lot;
            m = town.ms[lot];
            size = 0;
            return said(kind, act, x, 0);
        }

        /** The KIND, from one on upwards, that has a BODY of an act of its own. */
        private static int ownerOf(int from, int act) {
            int at = from;
            for (int i = 0; i < KINDS && at > 0 && OWN[ACTS * at + act] == 0; i++) {
                at = ABOVE[at];
            }
            return Math.max(at, 0);
        }

        private void note(int body) {
            if (size < MOST_BODIES) {
                bodies[size] = body;
                size++;
            }
        }

        /** What the BODY of an act says that the KIND given, or the next one above it, has. */
        private int said(int from, int act, int x, int depth) {
            if (depth >= MOST_DEPTH) {
                return 0;
            }
            int owner = ownerOf(from, act);
            int body = OWN[ACTS * owner + act];
            int deeper = depth + 1;
            note(body);
            switch (body) {
                case 10: return x + n;
                case 11: return said(kind, STANDS, x, deeper) * 2;
                case 12: return x - m;
                case 13: return said(kind, PAINTS, x, deeper) ^ said(kind, TURNS, x, deeper);
                case 20: return said(ABOVE[owner], PAINTS, x, deeper) - said(kind, TURNS, 1, deeper);
                case 30: return said(ABOVE[owner], STANDS, x, deeper) * 3;
                case 40: return -said(ABOVE[owner], TURNS, x, deeper);
                case 50: return said(ABOVE[owner], PAINTS, x + 1, deeper);
                case 60: return said(ABOVE[owner], TELLS, x, deeper) - said(kind, STANDS, 2, deeper);
                case 70: return said(ABOVE[owner], TURNS, x, deeper) ^ n;
                default: return said(kind, PAINTS, x, deeper) - said(ABOVE[owner], TELLS, x, deeper);
            }
        }
    }

    /** A SHEET: a row of numbers of so many bits; of 0 bits it is missing. */
    private static final class Sheet {
        final int[] numbers = new int[MOST_NUMBERS];
        int bits;
        int size;

        boolean isMissing() {
            return bits == 0;
        }

        void begin(int newBits, int newSize) {
            bits = newBits;
            size = newSize;
            for (int i = 0; i < newSize; i++) {
                numbers[i] = 0;
            }
        }

        void set(int i, int v) {
            int dropped = 32 - bits;
            numbers[i] = v << dropped >> dropped;
        }

        /** Whether n numbers stand from number i on. */
        boolean has(int i, int n) {
            return i >= 0 && n >= 0 && n <= size && i <= size - n;
        }
    }
}
