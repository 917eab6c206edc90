/** Promises 24 to 27: sheet, mark, copy, count. */
public final class SheetTest {
    private static final Due due = new Due();
    private static final int BAD = Due.BAD, NOTHING = Due.NOTHING, INDEX = Due.INDEX, SIZE = Due.SIZE;

    public static void main(String[] args) {
        sheets();
        marks();
        copies();
        copiesWithinOne();
        copiesRefused();
        counts();
        due.end();
    }

    private static void sheets() {
        SwingDesk x = new SwingDesk();
        due.is("24 SHEET 2", x.sheet(2, 1), BAD);
        due.is("24 SHEET -1", x.sheet(-1, 1), BAD);
        due.is("24 31 places", x.sheet(0, 31), BAD);
        due.is("24 most places", x.sheet(0, Due.MOST), BAD);
        due.is("24 below 0", x.sheet(0, -1), SIZE);
        due.is("24 far below 0", x.sheet(1, Due.LEAST), SIZE);
        due.is("24 BAD stands ahead of SIZE", x.sheet(2, -1), BAD);
        due.is("24 still MISSING", x.mark(0, 0, 1), NOTHING);
        due.is("24 30 places", x.sheet(0, 30), 30);
        due.is("24 the last place", x.mark(0, 29, 5), 0);
        due.is("24 no place behind", x.mark(0, 30, 5), INDEX);
        due.is("24 the other is MISSING", x.mark(1, 0, 1), NOTHING);
        due.is("24 a refused call keeps it", x.sheet(0, -1), SIZE);
        due.is("24 kept", x.mark(0, 29, 6), 5);
        due.is("24 anew, all 0", x.sheet(0, 30), 30);
        due.is("24 it is 0", x.mark(0, 29, 7), 0);
        due.is("24 shorter", x.sheet(0, 3), 3);
        due.is("24 longer again", x.sheet(0, 30), 30);
        due.is("24 nothing is left", x.mark(0, 29, 1), 0);
        due.is("24 no places", x.sheet(0, 0), 0);
        due.is("24 none, but not MISSING", x.mark(0, 0, 1), INDEX);
    }

    private static void marks() {
        SwingDesk x = new SwingDesk();
        x.sheet(0, 3);
        int[][] bytes = {{127, 127}, {128, -128}, {255, -1}, {256, 0}, {-129, 127}, {300, 44}, {-1, -1},
            {Due.MOST, -1}, {Due.LEAST, 0}, {9, 9}};
        int was = 0;
        for (int[] b : bytes) {
            due.is("25 mark(" + b[0] + ")", x.mark(0, 1, b[0]), was);
            was = b[1];
        }
        due.is("25 the one ahead", x.mark(0, 0, 1), 0);
        due.is("25 the one behind", x.mark(0, 2, 1), 0);
        int[] none = {3, -1, Due.LEAST, Due.MOST, Due.NONE};
        for (int place : none) {
            due.is("25 place " + place, x.mark(0, place, 1), INDEX);
        }
        due.is("25 SHEET 2", x.mark(2, 0, 1), BAD);
        due.is("25 SHEET -1, no such place", x.mark(-1, 99, 1), BAD);
        due.is("25 MISSING stands ahead of INDEX", x.mark(1, 99, 1), NOTHING);
        due.is("25 as it was", x.mark(0, 1, 0), 9);
    }

    private static SwingDesk withRows() {
        SwingDesk x = new SwingDesk();
        x.sheet(0, 5);
        x.sheet(1, 3);
        for (int i = 0; i < 5; i++) {
            x.mark(0, i, i + 1);
        }
        return x;
    }

    private static void rowIs(String what, SwingDesk x, int s, int... row) {
        for (int i = 0; i < row.length; i++) {
            due.is(what + " at " + i, x.mark(s, i, row[i]), row[i]);
        }
    }

    private static void copies() {
        SwingDesk x = withRows();
        due.is("26 copy", x.copy(0, 3, 1, 1, 2), 2);
        rowIs("26 target", x, 1, 0, 4, 5);
        rowIs("26 source", x, 0, 1, 2, 3, 4, 5);
        due.is("26 none at the ends", x.copy(0, 5, 1, 3, 0), 0);
        due.is("26 back", x.copy(1, 0, 0, 2, 3), 3);
        rowIs("26 back", x, 0, 1, 2, 0, 4, 5);
        x.sheet(1, 0);
        due.is("26 none of none", x.copy(1, 0, 1, 0, 0), 0);
    }

    private static void copiesWithinOne() {
        SwingDesk x = withRows();
        due.is("26 upwards", x.copy(0, 0, 0, 1, 4), 4);
        rowIs("26 upwards, as they were", x, 0, 1, 1, 2, 3, 4);
        x = withRows();
        due.is("26 downwards", x.copy(0, 1, 0, 0, 4), 4);
        rowIs("26 downwards, as they were", x, 0, 2, 3, 4, 5, 5);
        due.is("26 onto itself", x.copy(0, 0, 0, 0, 5), 5);
        rowIs("26 onto itself", x, 0, 2, 3, 4, 5, 5);
    }

    private static void copiesRefused() {
        SwingDesk x = withRows();
        int[][] no = {{0, 0, 1, 0, 4}, {0, 3, 1, 0, 3}, {0, -1, 1, 0, 1}, {0, 0, 1, -1, 1}, {0, 5, 1, 0, 1},
            {0, 0, 1, 3, 1}, {0, 6, 1, 0, 0}, {0, 0, 1, 4, 0}, {0, 0, 1, 0, -1}, {0, -1, 1, 0, 0},
            {0, 1, 1, 0, Due.MOST}, {0, Due.MOST, 1, 0, 1}, {0, 0, 1, Due.MOST, Due.MOST}, {0, 0, 1, 0, Due.LEAST},
            {0, Due.MOST, 1, 0, Due.LEAST}};
        for (int[] b : no) {
            due.is("26 copy" + java.util.Arrays.toString(b), x.copy(b[0], b[1], b[2], b[3], b[4]), INDEX);
        }
        rowIs("26 nothing changed", x, 1, 0, 0, 0);
        int[][] bad = {{2, 0, 1, 0, 1}, {-1, 0, 1, 0, 1}, {0, 0, 2, 0, 1}, {0, 0, -1, 0, 1}, {2, 9, 2, 9, 9}};
        for (int[] b : bad) {
            due.is("26 copy" + java.util.Arrays.toString(b), x.copy(b[0], b[1], b[2], b[3], b[4]), BAD);
        }
        SwingDesk y = new SwingDesk();
        y.sheet(1, 3);
        due.is("26 the source is MISSING", y.copy(0, 0, 1, 0, 1), NOTHING);
        due.is("26 the target is MISSING", y.copy(1, 0, 0, 0, 1), NOTHING);
        due.is("26 MISSING stands ahead of INDEX", y.copy(1, 9, 0, 9, 9), NOTHING);
        due.is("26 MISSING, none copied", y.copy(0, 0, 0, 0, 0), NOTHING);
        due.is("26 BAD stands ahead of MISSING", y.copy(0, 0, 2, 0, 0), BAD);
    }

    private static void counts() {
        SwingDesk x = Due.desk(3, 5);
        Due.people(x, 4, 0, 5);
        for (int cue = 0; cue < 30; cue++) {
            x.in(0, cue, 0, 0);
            x.in(1, cue, 9, 0);
            x.lift(cue, 0, 1);
        }
        x.days(5);
        x.out(0, 0);
        x.out(1, 29);
        x.out(2, 30);
        x.own(3, 2);
        x.feud(0, 1, 1);
        x.feud(2, 1, 1);
        x.feud(3, 1, 1);
        x.rehearse(0, 1);
        int[] many = {3, 4, 30, 5, 2, 1, 3, 1};
        for (int what = 0; what < 8; what++) {
            due.is("27 count(" + what + ")", x.count(what), many[what]);
        }
        x.out(0, 30);
        due.is("27 one is in again", x.count(4), 1);
        x.cast(30000);
        x.hurt(3, 7);
        due.is("27 HURT is OUT", x.count(4), 2);
        int[] bad = {-1, 8, Due.NONE, Due.LEAST, Due.MOST};
        for (int what : bad) {
            due.is("27 count(" + what + ")", x.count(what), BAD);
        }
    }
}
