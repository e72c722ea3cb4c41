/** Counts the answers that are not as they are due, and tells them. */
final class Due {
    static final long BEYOND = -1000000001L;
    static final long NONE = -1000000002L;
    static final long STATE = -1000000003L;
    static final long FULL = -1000000004L;
    static final long KIND = -1000000005L;

    private static int asked;
    private static int wrong;

    private Due() {
    }

    static void is(String what, long got, long want) {
        asked++;
        if (got != want) {
            wrong++;
            System.out.println(what + " answered " + got + ", due is " + want);
        }
    }

    static void holds(String what, boolean does) {
        is(what, does ? 1 : 0, 1);
    }

    /** Feeds a TEXT to THE TAPE, and reads it for a USE. */
    static long text(AlikeTown x, int use, String text) {
        for (int i = 0; i < text.length(); i += 8) {
            long word = 0;
            int n = Math.min(8, text.length() - i);
            for (int j = n - 1; j >= 0; j--) {
                word = word << 8 | text.charAt(i + j);
            }
            x.feed(word, n);
        }
        return x.text(use);
    }

    /** Puts a HOUSE in a LOT as it is told, whatever THE LAW says. */
    static void put(AlikeTown x, int lot, int km, int house) {
        x.build(lot, 50, house);
        x.become(lot, km);
    }

    static void end(String name) {
        System.out.println(name + ": " + asked + " answers asked, " + wrong + " not as due");
        if (wrong != 0 || asked == 0) {
            System.exit(1);
        }
    }
}
