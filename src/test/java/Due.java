/** Counts the answers that are not the ones that are due, and ends the test by them. */
final class Due {
    static final int BAD = -1000000001, NO = -1000000002, FULL = -1000000003, SPENT = -1000000004,
            NONE = -1000000005, NOTHING = -1000000011, INDEX = -1000000013, SIZE = -1000000014;
    static final int LEAST = Integer.MIN_VALUE, MOST = Integer.MAX_VALUE;

    private int asked = 0;
    private int wrong = 0;

    void is(String what, long got, long want) {
        asked++;
        if (got != want) {
            wrong++;
            System.out.println(what + " answered " + got + ", due is " + want);
        }
    }

    void holds(String what, boolean is) {
        is(what, is ? 1 : 0, 1);
    }

    void end() {
        System.out.println(asked + " answers, " + wrong + " not as due");
        if (wrong != 0 || asked == 0) {
            System.exit(1);
        }
    }

    /** A desk with tracks of one dress. */
    static SwingDesk desk(int tracks, int dress) {
        SwingDesk x = new SwingDesk();
        for (int i = 0; i < tracks; i++) {
            x.track(dress);
        }
        return x;
    }

    static void people(SwingDesk x, int many, int kind, int size) {
        for (int i = 0; i < many; i++) {
            x.person(kind, size);
        }
    }
}
