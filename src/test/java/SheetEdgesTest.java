/** The sentences of promises 24 to 27, and of SHEETS and FINDINGS, that name an edge. */
public final class SheetEdgesTest {
    private static final Due due = new Due();
    private static final int BAD = Due.BAD, NONE = Due.NONE, NOTHING = Due.NOTHING, INDEX = Due.INDEX, SIZE = Due.SIZE;

    public static void main(String[] args) {
        missingAtFirst();
        zeroToThirtyPlaces();
        tooManyOrTooFew();
        allAreZero();
        placesOfASheet();
        bytesWrapAround();
        marksRefused();
        copiesToTheEnds();
        copiesOfNothing();
        copiesBeyond();
        copiesWrappedAround();
        copiesOverlap();
        copiesRefused();
        countsOfAll();
        countsOfNone();
        countsRefused();
        due.end();
    }

    /** SHEETS of so many places: 1, 2, 3 .. in the first, -1, -2, -3 .. in the second. */
    private static SwingDesk rows(int first, int second) {
        SwingDesk x = new SwingDesk();
        x.sheet(0, first);
        x.sheet(1, second);
        for (int place = 0; place < first; place++) {
            x.mark(0, place, place + 1);
        }
        for (int place = 0; place < second; place++) {
            x.mark(1, place, -place - 1);
        }
        return x;
    }

    private static void rowIs(String what, SwingDesk x, int s, int... row) {
        for (int place = 0; place < row.length; place++) {
            due.is(what + ", place " + place, x.mark(s, place, row[place]), row[place]);
        }
        due.is(what + ", no place behind", x.mark(s, row.length, 0), INDEX);
    }

    /** "or MISSING (at first)"; "NOTHING: a SHEET is MISSING" */
    private static void missingAtFirst() {
        SwingDesk x = Due.desk(1, 5);
        for (int s = 0; s < 2; s++) {
            due.is("25 MISSING", x.mark(s, 0, 1), NOTHING);
            due.is("26 MISSING", x.copy(s, 0, s, 0, 0), NOTHING);
            due.is("5 MISSING", x.lay(0, 0, s), NOTHING);
        }
        due.is("24 the second", x.sheet(1, 0), 0);
        due.is("25 it is there", x.mark(1, 0, 1), INDEX);
        due.is("26 it is there", x.copy(1, 0, 1, 0, 0), 0);
        due.is("5 it is there", x.lay(0, 0, 1), 0);
        due.is("25 the first is MISSING still", x.mark(0, 0, 1), NOTHING);
        due.is("24 no SHEET 2", x.sheet(2, 1), BAD);
        due.is("24 no SHEET -1", x.sheet(-1, 1), BAD);
        due.is("25 no SHEET 2", x.mark(2, 0, 1), BAD);
        due.is("25 no SHEET -1", x.mark(-1, 0, 1), BAD);
    }

    /** "rows of bytes with 0 to 30 places"; "A SHEET has n places, all 0: n." */
    private static void zeroToThirtyPlaces() {
        for (int n = 0; n <= 30; n++) {
            SwingDesk x = new SwingDesk();
            due.is("24 " + n + " places", x.sheet(0, n), n);
            rowIs("24 " + n + " places", x, 0, new int[n]);
            due.is("25 no place -1", x.mark(0, -1, 0), INDEX);
            due.is("25 the other one is MISSING", x.mark(1, 0, 0), NOTHING);
        }
    }

    /** "BAD: sheet, n above 30; SIZE." */
    private static void tooManyOrTooFew() {
        Twins desks = new Twins(due, () -> rows(30, 0));
        for (int s = 0; s < 2; s++) {
            int of = s;
            desks.keeps("24 31 places", x -> x.sheet(of, 31), BAD);
            desks.keeps("24 the most", x -> x.sheet(of, Due.MOST), BAD);
            desks.keeps("24 -1 places", x -> x.sheet(of, -1), SIZE);
            desks.keeps("24 the fewest", x -> x.sheet(of, Due.LEAST), SIZE);
            desks.keeps("24 NONE places", x -> x.sheet(of, NONE), SIZE);
        }
        desks.changes("24 30 places", x -> x.sheet(1, 30), 30);
        desks.changes("24 0 places", x -> x.sheet(0, 0), 0);
        Twins missing = new Twins(due, SwingDesk::new);
        missing.keeps("24 MISSING, 31 places", x -> x.sheet(0, 31), BAD);
        missing.keeps("24 MISSING, -1 places", x -> x.sheet(1, -1), SIZE);
    }

    private static void allAreZero() {
        SwingDesk x = rows(30, 30);
        due.is("24 as many again", x.sheet(0, 30), 30);
        rowIs("24 as many again", x, 0, new int[30]);
        due.is("25 the other one stays", x.mark(1, 29, -30), -30);
        x = rows(30, 30);
        x.sheet(1, 1);
        rowIs("24 one alone", x, 1, 0);
        x.sheet(1, 30);
        rowIs("24 thirty again", x, 1, new int[30]);
        due.is("25 the first stays", x.mark(0, 29, 30), 30);
    }

    /** "INDEX: there is no such place" */
    private static void placesOfASheet() {
        int[] lengths = {0, 1, 2, 29, 30};
        for (int n : lengths) {
            Twins desks = new Twins(due, () -> rows(n, 30));
            desks.keeps("25 behind the last of " + n, x -> x.mark(0, n, 1), INDEX);
            desks.keeps("25 ahead of the first of " + n, x -> x.mark(0, -1, 1), INDEX);
            if (n > 0) {
                desks.changes("25 the last of " + n, x -> x.mark(0, n - 1, 99), n);
                desks.changes("25 the first of " + n, x -> x.mark(0, 0, 99), 1);
            }
        }
        SwingDesk x = rows(30, 30);
        x.mark(0, 0, 50);
        x.mark(0, 29, 51);
        due.is("25 beside the first", x.mark(0, 1, 2), 2);
        due.is("25 beside the last", x.mark(0, 28, 29), 29);
        due.is("25 of the other one", x.mark(1, 0, -1), -1);
        due.is("25 the first", x.mark(0, 0, 0), 50);
        due.is("25 the last", x.mark(0, 29, 0), 51);
    }

    /** "A place of a SHEET becomes v (as a byte): what it was." */
    private static void bytesWrapAround() {
        int[][] bytes = {{0, 0}, {1, 1}, {-1, -1}, {127, 127}, {128, -128}, {129, -127}, {-128, -128}, {-129, 127},
            {-130, 126}, {255, -1}, {256, 0}, {257, 1}, {-255, 1}, {-256, 0}, {-257, -1}, {383, 127}, {384, -128},
            {65535, -1}, {65536, 0}, {Due.MOST, -1}, {Due.LEAST, 0}, {Due.MOST - 127, -128}, {Due.LEAST + 127, 127}};
        for (int[] b : bytes) {
            SwingDesk x = rows(30, 30);
            due.is("25 what it was", x.mark(0, 29, b[0]), 30);
            due.is("25 " + b[0] + " as a byte", x.mark(0, 29, 5), b[1]);
            due.is("25 beside it", x.mark(0, 28, 0), 29);
            due.is("25 the other SHEET", x.mark(1, 0, 0), -1);
        }
    }

    private static void marksRefused() {
        Twins desks = new Twins(due, Desks::small);
        desks.keeps("25 no SHEET 2", x -> x.mark(2, 0, 9), BAD);
        desks.keeps("25 no SHEET -1", x -> x.mark(-1, 0, 9), BAD);
        desks.keeps("25 MISSING", x -> x.mark(0, 0, 9), NOTHING);
        desks.keeps("25 no place 2", x -> x.mark(1, 2, 9), INDEX);
        desks.keeps("25 no place -1", x -> x.mark(1, -1, 9), INDEX);
        desks.changes("25 place 1", x -> x.mark(1, 1, 9), -1);
    }

    /** "So many places of a SHEET come to another one (or the same), as they were: many." */
    private static void copiesToTheEnds() {
        SwingDesk x = rows(30, 30);
        due.is("26 all", x.copy(0, 0, 1, 0, 30), 30);
        for (int place = 0; place < 30; place++) {
            due.is("26 all, place " + place, x.mark(1, place, 0), place + 1);
            due.is("26 all, from place " + place, x.mark(0, place, 0), place + 1);
        }
        SwingDesk y = rows(4, 3);
        due.is("26 the last to the last", y.copy(0, 3, 1, 2, 1), 1);
        rowIs("26 the last to the last", y, 1, -1, -2, 4);
        due.is("26 the first to the first", y.copy(1, 0, 0, 0, 1), 1);
        rowIs("26 the first to the first", y, 0, -1, 2, 3, 4);
        due.is("26 the last two to the first two", y.copy(0, 2, 1, 0, 2), 2);
        rowIs("26 the last two to the first two", y, 1, 3, 4, 4);
        due.is("26 as many as the lesser one has", y.copy(1, 0, 0, 1, 3), 3);
        rowIs("26 as many as the lesser one has", y, 0, -1, 3, 4, 4);
    }

    /** None is a number of places, too: between any two, and just behind the last one. */
    private static void copiesOfNothing() {
        Twins desks = new Twins(due, () -> rows(4, 3));
        for (int place = 0; place <= 4; place++) {
            for (int at = 0; at <= 3; at++) {
                int from = place;
                int to = at;
                desks.keeps("26 none from " + place + " to " + at, x -> x.copy(0, from, 1, to, 0), 0);
            }
        }
        desks.keeps("26 none from behind", x -> x.copy(0, 5, 1, 0, 0), INDEX);
        desks.keeps("26 none to behind", x -> x.copy(0, 0, 1, 4, 0), INDEX);
        desks.keeps("26 none from ahead", x -> x.copy(0, -1, 1, 0, 0), INDEX);
        desks.keeps("26 none to ahead", x -> x.copy(0, 0, 1, -1, 0), INDEX);
        Twins empty = new Twins(due, () -> rows(0, 0));
        empty.keeps("26 none of none", x -> x.copy(0, 0, 1, 0, 0), 0);
        empty.keeps("26 one of none", x -> x.copy(0, 0, 1, 0, 1), INDEX);
        empty.keeps("26 none behind none", x -> x.copy(0, 1, 1, 0, 0), INDEX);
    }

    /** "INDEX": one place too many in the one, in the other, or in both. */
    private static void copiesBeyond() {
        Twins desks = new Twins(due, () -> rows(4, 3));
        desks.changes("26 three", x -> x.copy(0, 0, 1, 0, 3), 3);
        desks.keeps("26 four to three", x -> x.copy(0, 0, 1, 0, 4), INDEX);
        desks.changes("26 three to four", x -> x.copy(1, 0, 0, 1, 3), 3);
        desks.keeps("26 four of three", x -> x.copy(1, 0, 0, 0, 4), INDEX);
        desks.keeps("26 one further to", x -> x.copy(1, 0, 0, 2, 3), INDEX);
        desks.keeps("26 one further from", x -> x.copy(0, 2, 1, 0, 3), INDEX);
        desks.keeps("26 from behind the last", x -> x.copy(0, 4, 1, 0, 1), INDEX);
        desks.keeps("26 to behind the last", x -> x.copy(0, 0, 1, 3, 1), INDEX);
        desks.keeps("26 from ahead of the first", x -> x.copy(0, -1, 1, 0, 1), INDEX);
        desks.keeps("26 to ahead of the first", x -> x.copy(0, 0, 1, -1, 1), INDEX);
        desks.keeps("26 within one, one further", x -> x.copy(0, 0, 0, 1, 4), INDEX);
        desks.changes("26 within one", x -> x.copy(0, 0, 0, 1, 3), 3);
        desks.keeps("26 many below 0", x -> x.copy(0, 1, 1, 1, -1), INDEX);
        desks.keeps("26 many below 0, from the end", x -> x.copy(0, 4, 1, 3, -3), INDEX);
    }

    /** Numbers whose sum wraps around are no places either. */
    private static void copiesWrappedAround() {
        Twins desks = new Twins(due, () -> rows(4, 3));
        int[][] far = {{Due.MOST, 0, 1}, {0, Due.MOST, 1}, {1, 1, Due.MOST}, {Due.MOST, Due.MOST, Due.MOST},
            {Due.MOST, 0, Due.LEAST}, {Due.LEAST, 0, Due.LEAST}, {Due.LEAST, Due.LEAST, 1}, {0, 0, Due.LEAST},
            {2, 2, Due.MOST - 1}, {Due.MOST - 1, Due.MOST - 1, 3}, {NONE, 0, 1}, {0, NONE, 1}, {0, 0, NONE},
            {-1, 0, 2}, {0, -1, 2}, {256, 0, 1}, {0, 256, 1}, {0, 0, 256}};
        for (int[] f : far) {
            desks.keeps("26 copy(0, " + f[0] + ", 1, " + f[1] + ", " + f[2] + ")",
                    x -> x.copy(0, f[0], 1, f[1], f[2]), INDEX);
        }
    }

    /** "(or the same), as they were" */
    private static void copiesOverlap() {
        SwingDesk x = rows(6, 0);
        due.is("26 one up", x.copy(0, 0, 0, 1, 5), 5);
        rowIs("26 one up", x, 0, 1, 1, 2, 3, 4, 5);
        x = rows(6, 0);
        due.is("26 one down", x.copy(0, 1, 0, 0, 5), 5);
        rowIs("26 one down", x, 0, 2, 3, 4, 5, 6, 6);
        x = rows(6, 0);
        due.is("26 two up", x.copy(0, 1, 0, 3, 3), 3);
        rowIs("26 two up", x, 0, 1, 2, 3, 2, 3, 4);
        x = rows(6, 0);
        due.is("26 three down, apart", x.copy(0, 3, 0, 0, 3), 3);
        rowIs("26 three down, apart", x, 0, 4, 5, 6, 4, 5, 6);
        Twins desks = new Twins(due, () -> rows(6, 0));
        desks.keeps("26 onto itself", d -> d.copy(0, 0, 0, 0, 6), 6);
        desks.keeps("26 one place onto itself", d -> d.copy(0, 5, 0, 5, 1), 1);
    }

    private static void copiesRefused() {
        Twins desks = new Twins(due, () -> rows(4, 3));
        int[] none = {2, -1, Due.MOST, Due.LEAST, NONE};
        for (int s : none) {
            desks.keeps("26 from no SHEET " + s, x -> x.copy(s, 0, 1, 0, 1), BAD);
            desks.keeps("26 to no SHEET " + s, x -> x.copy(0, 0, s, 0, 1), BAD);
            desks.keeps("26 from and to no SHEET " + s, x -> x.copy(s, 0, s, 0, 0), BAD);
        }
        Twins missing = new Twins(due, Desks::small);
        missing.keeps("26 from a MISSING one", x -> x.copy(0, 0, 1, 0, 1), NOTHING);
        missing.keeps("26 to a MISSING one", x -> x.copy(1, 0, 0, 0, 1), NOTHING);
        missing.keeps("26 none to a MISSING one", x -> x.copy(1, 0, 0, 0, 0), NOTHING);
        missing.changes("26 within the other one", x -> x.copy(1, 0, 1, 1, 1), 1);
    }

    /** As many of all that is counted as there can be. */
    private static void countsOfAll() {
        SwingDesk x = Due.desk(8, 5);
        Due.people(x, 10, 0, 5);
        for (int cue = 0; cue < 30; cue++) {
            x.in(6, cue, 0, 0);
            x.in(7, cue, 9, 0);
            x.lift(cue, 7, 6);
        }
        for (int i = 0; i < 6; i++) {
            x.days(60);
        }
        x.days(40);
        for (int person = 0; person < 10; person++) {
            x.out(person, 29);
            x.own(person, person < 8 ? person : NONE);
            for (int other = 0; other < 10; other++) {
                if (person != other) {
                    x.rehearse(person, other);
                    x.feud(person, other, 1);
                }
            }
        }
        int[] most = {8, 10, 30, 400, 10, 8, 45, 90};
        for (int what = 0; what < 8; what++) {
            due.is("27 the most of " + what, x.count(what), most[what]);
        }
    }

    /** Each of them down to none again. */
    private static void countsOfNone() {
        SwingDesk x = Desks.small();
        int[] are = {2, 3, 1, 5, 1, 2, 1, 1};
        for (int what = 0; what < 8; what++) {
            due.is("27 count(" + what + ")", x.count(what), are[what]);
        }
        x.lift(4, NONE, 0);
        due.is("27 no LIFTS", x.count(2), 0);
        x.out(1, 30);
        due.is("27 nobody OUT", x.count(4), 0);
        x.own(0, NONE);
        due.is("27 one OWNED", x.count(5), 1);
        x.own(1, NONE);
        due.is("27 none OWNED", x.count(5), 0);
        x.feud(2, 1, 0);
        due.is("27 no FEUDS", x.count(6), 0);
        x.days(29);
        due.is("27 a pair that is FRESH", x.count(7), 1);
        due.is("27 TODAY", x.count(3), 34);
        x.days(1);
        due.is("27 no pair that is FRESH", x.count(7), 0);
        due.is("27 TODAY, a day later", x.count(3), 35);
    }

    private static void countsRefused() {
        Twins desks = new Twins(due, Desks::full);
        desks.keeps("27 no what 8", x -> x.count(8), BAD);
        desks.keeps("27 no what -1", x -> x.count(-1), BAD);
        desks.keeps("27 what 7", x -> x.count(7), 3);
        desks.keeps("27 what 0", x -> x.count(0), 8);
    }
}
