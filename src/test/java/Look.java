import java.util.ArrayList;
import java.util.List;

/**
 * All that an object shows when it is asked for all. Two objects to which the same was done show the same; so an
 * act that is refused is asked of one of two, and may show in nothing but what told() tells.
 */
final class Look {
    /** Calls on an object, of which the last one's answer is looked at. */
    interface Act {
        long on(AlikeTown x);
    }

    /** Likewise, with a number. */
    interface Numbered {
        long on(AlikeTown x, int v);
    }

    /** Calls that bring an object to where it is to be looked at. */
    interface Setup {
        void on(AlikeTown x);
    }

    /** An object is used for 512 calls: those ahead of the look are fewer than what is left here. */
    private static final int MOST_CALLS = 400;
    private static final int FEW_LOTS = 8;
    private static final long LOW = -1000000000L;

    private final AlikeTown x;
    private final List<Long> shown = new ArrayList<>();

    private Look(AlikeTown x) {
        this.x = x;
    }

    /** Nothing is left to ask behind it: what waits, THE TAPE and THE TOWN are used up. */
    static List<Long> at(AlikeTown x) {
        Look look = new Look(x);
        for (int k = 1; k <= 5; k++) {
            look.see(x.told(k));
        }
        look.seeCounts();
        look.seeTrace();
        look.seeTown();
        look.seeTextsAndWhatWaits();
        look.seeSheets();
        look.see(x.restore());
        look.seeCounts();
        look.seeTown();
        look.seeTextsAndWhatWaits();
        look.see(x.image());
        Due.holds("a look of " + look.shown.size() + " calls", look.shown.size() <= MOST_CALLS);
        return look.shown;
    }

    private long see(long answer) {
        shown.add(answer);
        return answer;
    }

    private void seeCounts() {
        for (int what = 0; what <= 11; what++) {
            see(x.count(what));
        }
    }

    private void seeTrace() {
        long many = x.count(10);
        for (int i = 0; i < many; i++) {
            see(x.trace(i));
        }
    }

    private void seeTown() {
        int lots = x.count(0) * x.count(1);
        for (int lot = 0; lot < lots; lot++) {
            if (see(x.ofLot(lot, 0)) == 1) {
                for (int what = lots <= FEW_LOTS ? 1 : 11; what <= 11; what++) {
                    see(x.ofLot(lot, what));
                }
            }
        }
        see(x.wrong(-1));
    }

    private void seeTextsAndWhatWaits() {
        see(x.law(0, 3, 50, 0, 0));
        see(x.law(0, 50, 3, 0, 0));
        see(x.law(1, 31, 7, 3, 1));
        see(x.law(1, 3, 5, 7, 29));
        see(x.check());
        see(x.text(1));
        see(x.law(1, 31, 7, 3, 1));
        see(x.law(1, 3, 5, 7, 29));
    }

    private void seeSheets() {
        x.town(8, 8, 0);
        x.rule(0, 0);
        x.rule(1, 4);
        for (int sheet = 0; sheet < 4; sheet++) {
            for (int other = 0; other <= sheet; other++) {
                see(x.move(sheet, 0, other, 0, 0));
            }
            x.town(8, 8, 0);
            long many = see(x.builds(sheet));
            for (int i = 0; i < many && i < FEW_LOTS; i++) {
                see(x.pull(i));
            }
        }
    }

    /** A town of 2 by 3 LOTS with something of all that there is, and an IMAGE of another one. */
    static void full(AlikeTown x) {
        x.town(1, 3, 0);
        x.rule(1, 2);
        x.build(1, 43, 30);
        Due.text(x, 0, "k+9");
        Due.text(x, 1, "d");
        x.feed('c', 1);
        x.tell(33);
        x.seed(77);
        x.image();
        x.check();
        x.text(1);
        x.years(7);
        x.town(2, 3, 1);
        x.rule(1, 1);
        x.build(0, 13, 0);
        x.build(1, 28, 13);
        x.build(2, 55, 40);
        x.build(4, 67, 38);
        x.storm(3, 2);
        x.paint(4, 0, 2);
        Due.text(x, 0, "m*2+k");
        Due.text(x, 1, "c*2-r+d");
        x.feed('v' | '*' << 8 | '3' << 16, 3);
        x.tell(x.may(0, -1));
        x.tell(x.may(1, -1));
        x.voice(4, 3, 5);
        fillSheets(x);
        x.pull(5);
        x.as(0, 4);
        x.rule(0, 2);
    }

    /** SHEET 0: 8 bits, 1: 16, 2: 32; 3 is missing. */
    static void fillSheets(AlikeTown x) {
        int[][] numbers = {{1, 13, 26, 80}, {5, 7, 11}, {77, 2}};
        for (int sheet = 0; sheet < numbers.length; sheet++) {
            x.sheet(sheet, 8 << sheet, numbers[sheet].length);
            for (int i = 0; i < numbers[sheet].length; i++) {
                x.put(sheet, i, numbers[sheet][i]);
            }
        }
    }

    /** An act is refused so, and changes nothing but what told() tells. */
    static void refuses(String what, Setup setup, long due, Act act) {
        AlikeTown asked = new AlikeTown();
        AlikeTown other = new AlikeTown();
        setup.on(asked);
        setup.on(other);
        Due.is(what, act.on(asked), due);
        List<Long> got = at(asked);
        List<Long> want = at(other);
        int k = (int) (LOW - due) - 1;
        want.set(k, want.get(k) + 1);
        same(what + ": shown behind it", got, want);
    }

    /** The same of the full town. */
    static void refuses(String what, long due, Act act) {
        refuses(what, Look::full, due, act);
    }

    /** An act that only tells something changes nothing. */
    static void tellsAlone(String what, Setup setup, long due, Act act) {
        Setup asked = y -> {
            setup.on(y);
            Due.is(what, act.on(y), due);
        };
        same(what + ": shown behind it", asked, setup);
    }

    /** Objects to which this and that was done show the same. */
    static void same(String what, Setup setup, Setup otherSetup) {
        AlikeTown one = new AlikeTown();
        AlikeTown other = new AlikeTown();
        setup.on(one);
        otherSetup.on(other);
        same(what, at(one), at(other));
    }

    private static void same(String what, List<Long> got, List<Long> want) {
        int first = 0;
        while (first < got.size() && first < want.size() && got.get(first).equals(want.get(first))) {
            first++;
        }
        Due.is(what + ", as many as are the same", first, Math.max(got.size(), want.size()));
    }

    /** A number from least to most: at both ends no ERROR, and one below and above, and far off, BEYOND. */
    static void range(String what, Setup setup, int least, int most, Numbered act) {
        for (int v : new int[] {least, most}) {
            AlikeTown x = new AlikeTown();
            setup.on(x);
            Due.holds(what + " " + v + " is no error", act.on(x, v) >= LOW);
        }
        for (int v : new int[] {least - 1, most + 1, Integer.MIN_VALUE, Integer.MAX_VALUE}) {
            refuses(what + " " + v, setup, Due.BEYOND, x -> act.on(x, v));
        }
    }

    /** The same in the full town. */
    static void range(String what, int least, int most, Numbered act) {
        range(what, Look::full, least, most, act);
    }
}
