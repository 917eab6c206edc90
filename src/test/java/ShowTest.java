/** Promises 1 to 6: a new object, track, in, lift, lay, told. */
public final class ShowTest {
    private static final Due due = new Due();
    private static final int BAD = Due.BAD, NO = Due.NO, FULL = Due.FULL, NONE = Due.NONE;

    public static void main(String[] args) {
        newObject();
        tracks();
        ins();
        insBad();
        insEndLifts();
        lifts();
        liftsRefused();
        lays();
        laysRefused();
        tolds();
        due.end();
    }

    private static void newObject() {
        SwingDesk x = new SwingDesk();
        for (int what = 0; what < 8; what++) {
            due.is("1 new count(" + what + ")", x.count(what), 0);
        }
        due.is("1 no TRACK 0", x.told(0, 0, 0), BAD);
        due.is("1 no PERSON 0", x.isOf(0, 0), BAD);
        due.is("1 no CAST", x.who(0), NO);
        due.is("1 SHEET 0 is MISSING", x.mark(0, 0, 0), Due.NOTHING);
        due.is("1 SHEET 1 is MISSING", x.mark(1, 0, 0), Due.NOTHING);
        due.is("1 a PLAN of nothing", x.plan(), 0);
        due.is("1 a CAST of nothing", x.cast(1), 0);
    }

    private static void tracks() {
        SwingDesk x = new SwingDesk();
        int[] bad = {0, 10, -1, NONE, Due.LEAST, Due.MOST};
        for (int dress : bad) {
            due.is("2 track(" + dress + ")", x.track(dress), BAD);
        }
        for (int i = 0; i < 8; i++) {
            due.is("2 track", x.track(i + 1), i);
        }
        due.is("2 a ninth", x.track(9), FULL);
        due.is("2 BAD stands ahead of FULL", x.track(10), BAD);
        due.is("2 eight", x.count(0), 8);
        SwingDesk y = new SwingDesk();
        due.is("2 dress 9", y.track(9), 0);
    }

    private static void ins() {
        SwingDesk x = Due.desk(2, 5);
        due.is("3 first", x.in(0, 0, 9, 1), NONE);
        due.is("3 again", x.in(0, 0, 0, 0), 9);
        due.is("3 MUST is told anew", x.told(0, 0, 1), 0);
        due.is("3 last cue", x.in(1, 29, 3, 1), NONE);
        due.is("3 other TRACK, same CUE", x.in(0, 29, 4, 0), NONE);
        due.is("3 other TRACK stays", x.told(1, 29, 0), 3);
        due.is("3 same TRACK, next CUE", x.told(1, 28, 0), NONE);
        due.is("3 not IN", x.in(1, 29, NONE, 1), 3);
        due.is("3 no PLACE", x.told(1, 29, 0), NONE);
        due.is("3 no MUST", x.told(1, 29, 1), 0);
        due.is("3 not IN, again", x.in(1, 29, NONE, 0), NONE);
    }

    private static void insBad() {
        SwingDesk x = Due.desk(1, 5);
        x.in(0, 0, 7, 1);
        int[][] bad = {{1, 0, 0, 0}, {-1, 0, 0, 0}, {NONE, 0, 0, 0}, {0, -1, 0, 0}, {0, 30, 0, 0}, {0, 0, -1, 0},
            {0, 0, 10, 0}, {0, 0, 0, 2}, {0, 0, 0, -1}, {0, 0, NONE, 2}, {0, 0, NONE, -1}, {0, 0, NONE, NONE},
            {Due.MOST, 0, 0, 0}, {0, Due.LEAST, 0, 0}, {0, 0, Due.MOST, 0}, {0, 0, BAD, 0}};
        for (int[] b : bad) {
            due.is("3 in" + java.util.Arrays.toString(b), x.in(b[0], b[1], b[2], b[3]), BAD);
        }
        due.is("3 nothing changed, PLACE", x.told(0, 0, 0), 7);
        due.is("3 nothing changed, MUST", x.told(0, 0, 1), 1);
    }

    private static SwingDesk withLift() {
        SwingDesk x = Due.desk(3, 5);
        for (int track = 0; track < 3; track++) {
            x.in(track, 4, track, 0);
            x.in(track, 5, track, 0);
        }
        x.lift(4, 0, 1);
        x.lift(5, 1, 0);
        return x;
    }

    private static void insEndLifts() {
        SwingDesk x = withLift();
        x.in(2, 4, 9, 0);
        due.is("3 another TRACK ends no LIFT", x.told(0, 4, 2), 1);
        x.in(0, 4, 0, 0);
        due.is("3 IN anew ends the LIFT of the first", x.told(1, 4, 2), NONE);
        due.is("3 the LIFT of another CUE stays", x.told(0, 5, 2), 1);
        x.in(0, 5, NONE, 0);
        due.is("3 not IN ends the LIFT of the second", x.count(2), 0);
        x = withLift();
        x.in(1, 4, 10, 0);
        due.is("3 a refused call ends no LIFT", x.count(2), 2);
        x.in(1, 4, NONE, 0);
        due.is("3 not IN ends the LIFT", x.told(0, 4, 2), NONE);
        x.in(1, 4, 1, 0);
        due.is("3 and it does not come again", x.told(0, 4, 2), NONE);
    }

    private static void lifts() {
        SwingDesk x = withLift();
        due.is("4 one of a CUE at most", x.lift(4, 2, 1), 1);
        due.is("4 the old one is gone", x.told(0, 4, 2), NONE);
        due.is("4 the new one, first", x.told(2, 4, 2), 1);
        due.is("4 the new one, second", x.told(1, 4, 2), 2);
        due.is("4 two LIFTS", x.count(2), 2);
        due.is("4 none any more", x.lift(4, NONE, 0), 1);
        due.is("4 none again, the other does not count", x.lift(4, NONE, 77), 0);
        due.is("4 one LIFT", x.count(2), 1);
        due.is("4 anew", x.lift(4, 0, 2), 0);
    }

    private static void liftsRefused() {
        SwingDesk x = withLift();
        int[][] bad = {{-1, 0, 1}, {30, 0, 1}, {30, NONE, 1}, {-1, NONE, 0}, {4, 3, 0}, {4, 0, 3}, {4, -1, 0},
            {4, 0, -1}, {4, 0, NONE}, {4, 1, 1}, {6, 1, 1}, {4, Due.MOST, 0}, {4, 0, Due.LEAST}, {4, 5, 5}};
        for (int[] b : bad) {
            due.is("4 lift" + java.util.Arrays.toString(b), x.lift(b[0], b[1], b[2]), BAD);
        }
        x.in(0, 6, 1, 0);
        due.is("4 the other is not IN", x.lift(6, 0, 1), NO);
        due.is("4 the first is not IN", x.lift(6, 1, 0), NO);
        due.is("4 neither is", x.lift(7, 1, 0), NO);
        x.in(2, 5, NONE, 0);
        due.is("4 NO leaves the LIFT", x.lift(5, 1, 2), NO);
        due.is("4 as it was", x.told(0, 5, 2), 1);
        due.is("4 as it was here too", x.told(1, 4, 2), 0);
    }

    private static void lays() {
        SwingDesk x = withLift();
        x.sheet(0, 4);
        int[] row = {9, 10, -1, 265};
        for (int i = 0; i < 4; i++) {
            x.mark(0, i, row[i]);
        }
        x.in(0, 3, 2, 1);
        x.in(0, 6, 2, 1);
        x.in(0, 7, 2, 1);
        due.is("5 lay", x.lay(0, 3, 0), 4);
        due.is("5 PLACE 9", x.told(0, 3, 0), 9);
        due.is("5 MUST 0", x.told(0, 3, 1), 0);
        due.is("5 10 is no PLACE", x.told(0, 4, 0), NONE);
        due.is("5 -1 is no PLACE", x.told(0, 5, 0), NONE);
        due.is("5 265 is 9 as a byte", x.told(0, 6, 0), 9);
        due.is("5 behind the SHEET", x.told(0, 7, 0), 2);
        due.is("5 behind the SHEET, MUST", x.told(0, 7, 1), 1);
        due.is("5 ends LIFTS", x.count(2), 0);
        due.is("5 other TRACKS stay", x.told(1, 4, 0), 1);
        x.sheet(1, 30);
        due.is("5 all CUES", x.lay(2, 0, 1), 30);
        due.is("5 the last of them", x.told(2, 29, 0), 0);
        x.sheet(1, 0);
        due.is("5 no places", x.lay(2, 29, 1), 0);
        due.is("5 nothing is told then", x.told(2, 29, 0), 0);
        x.sheet(1, 1);
        x.mark(1, 0, -128);
        due.is("5 one place at the last CUE", x.lay(2, 29, 1), 1);
        due.is("5 -128 is no PLACE", x.told(2, 29, 0), NONE);
    }

    private static void laysRefused() {
        SwingDesk x = withLift();
        x.sheet(1, 2);
        int[][] bad = {{3, 0, 1}, {-1, 0, 1}, {0, 30, 1}, {0, -1, 1}, {0, 0, 2}, {0, 0, -1}, {0, 0, NONE},
            {3, 0, 0}, {0, 30, 0}};
        for (int[] b : bad) {
            due.is("5 lay" + java.util.Arrays.toString(b), x.lay(b[0], b[1], b[2]), BAD);
        }
        due.is("5 MISSING", x.lay(0, 29, 0), Due.NOTHING);
        due.is("5 one place too many", x.lay(0, 29, 1), Due.INDEX);
        due.is("5 nothing changed", x.told(0, 29, 0), NONE);
        due.is("5 as many as there are", x.lay(0, 28, 1), 2);
        x.sheet(1, 30);
        due.is("5 30 from CUE 1", x.lay(0, 1, 1), Due.INDEX);
        due.is("5 LIFTS stay", x.count(2), 2);
    }

    private static void tolds() {
        SwingDesk x = withLift();
        x.in(2, 4, 8, 1);
        due.is("6 PLACE", x.told(2, 4, 0), 8);
        due.is("6 MUST", x.told(2, 4, 1), 1);
        due.is("6 no LIFT of it", x.told(2, 4, 2), NONE);
        due.is("6 LIFT, the first", x.told(0, 4, 2), 1);
        due.is("6 LIFT, the second", x.told(1, 4, 2), 0);
        due.is("6 not IN: PLACE", x.told(0, 0, 0), NONE);
        due.is("6 not IN: MUST", x.told(0, 0, 1), 0);
        due.is("6 not IN: LIFT", x.told(0, 0, 2), NONE);
        int[][] bad = {{3, 4, 0}, {-1, 4, 0}, {NONE, 4, 2}, {0, 30, 0}, {0, -1, 0}, {0, 4, 3}, {0, 4, -1},
            {Due.MOST, 0, 0}, {0, Due.LEAST, 0}, {0, 0, Due.MOST}};
        for (int[] b : bad) {
            due.is("6 told" + java.util.Arrays.toString(b), x.told(b[0], b[1], b[2]), BAD);
        }
    }
}
