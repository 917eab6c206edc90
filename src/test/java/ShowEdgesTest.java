/** The sentences of promises 1 to 6 that name an edge, each asked on the last value inside and the first outside. */
public final class ShowEdgesTest {
    private static final Due due = new Due();
    private static final int BAD = Due.BAD, NO = Due.NO, FULL = Due.FULL, NONE = Due.NONE, NOTHING = Due.NOTHING,
            INDEX = Due.INDEX;

    public static void main(String[] args) {
        newObjectsAreApart();
        eightTracks();
        dressesOneToNine();
        placesZeroToNine();
        mustAlsoWithNone();
        firstAndLastCue();
        notInAnyMore();
        inAnewEndsLifts();
        refusedInKeepsLifts();
        oneLiftOfACue();
        liftsOfTheLastTracks();
        liftNeedsBothIn();
        liftNone();
        firstLiftsSecond();
        laidToTheLastCue();
        laidOneTooMany();
        laidOfNoPlaces();
        laidBytes();
        laidAsIn();
        toldOfOneCue();
        due.end();
    }

    /** "No TRACKS, no PEOPLE." */
    private static void newObjectsAreApart() {
        SwingDesk old = Desks.full();
        SwingDesk x = new SwingDesk();
        due.is("1 no TRACKS", x.count(0), 0);
        due.is("1 no PEOPLE", x.count(1), 0);
        due.is("1 the first TRACK", x.track(5), 0);
        due.is("1 it is IN nothing", x.told(0, 5, 0), NONE);
        due.is("1 the first PERSON", x.person(0, 5), 0);
        due.is("1 who KNOWS nothing", x.fresh(0, 0), NO);
        due.is("1 and OWNS nothing", x.own(0, NONE), NONE);
        due.is("1 and is not OUT", x.out(0, 30), 30);
        due.is("1 the old one has its TRACKS", old.count(0), 8);
        due.is("1 and its PEOPLE", old.count(1), 10);
    }

    /** "TRACKS, 8 at most, numbered from 0"; "One more TRACK: its number. BAD; FULL." */
    private static void eightTracks() {
        SwingDesk x = new SwingDesk();
        for (int track = 0; track < 8; track++) {
            due.is("2 not yet there", x.told(track, 0, 0), BAD);
            due.is("2 its number", x.track(9), track);
            due.is("2 there", x.told(track, 0, 0), NONE);
            due.is("2 one more", x.count(0), track + 1);
        }
        new Twins(due, () -> Due.desk(8, 9)).keeps("2 the ninth", d -> d.track(9), FULL);
        new Twins(due, () -> Due.desk(7, 9)).changes("2 the eighth", d -> d.track(9), 7);
        due.is("2 FULL", x.track(1), FULL);
        due.is("2 FULL again", x.track(9), FULL);
        due.is("2 the ninth is not there", x.told(8, 0, 0), BAD);
        due.is("2 still eight", x.count(0), 8);
    }

    /** "a DRESS SIZE 1 .. 9" */
    private static void dressesOneToNine() {
        int[][] fits = {{1, 1, 1}, {1, 2, 1}, {1, 3, 0}, {9, 9, 1}, {9, 8, 1}, {9, 7, 0}, {1, 9, 0}, {9, 1, 0}};
        for (int[] f : fits) {
            SwingDesk x = Due.desk(1, f[0]);
            x.person(0, f[1]);
            x.own(0, 0);
            due.is("2 DRESS " + f[0] + ", SIZE " + f[1], x.cast(1), f[2] == 1 ? 0 : 20);
        }
        SwingDesk x = new SwingDesk();
        due.is("2 DRESS 0", x.track(0), BAD);
        due.is("2 DRESS 10", x.track(10), BAD);
        due.is("2 neither is a TRACK", x.count(0), 0);
        due.is("2 the first number is still free", x.track(1), 0);
    }

    /** "A TRACK is IN a CUE at a PLACE (NONE: it is not): at which it was (NONE)." */
    private static void placesZeroToNine() {
        SwingDesk x = Due.desk(1, 5);
        int was = NONE;
        for (int place = 0; place <= 9; place++) {
            due.is("3 to PLACE " + place, x.in(0, 7, place, 0), was);
            due.is("3 at PLACE " + place, x.told(0, 7, 0), place);
            was = place;
        }
        due.is("3 PLACE 10", x.in(0, 7, 10, 0), BAD);
        due.is("3 PLACE -1", x.in(0, 7, -1, 0), BAD);
        due.is("3 one above NONE", x.in(0, 7, NONE + 1, 0), BAD);
        due.is("3 one below NONE", x.in(0, 7, NONE - 1, 0), BAD);
        due.is("3 still at 9", x.in(0, 7, 0, 0), 9);
    }

    /** "BAD: track, cue, place, must (also with NONE)." */
    private static void mustAlsoWithNone() {
        Twins desks = new Twins(due, Desks::small);
        desks.keeps("3 MUST 2 with NONE", x -> x.in(0, 4, NONE, 2), BAD);
        desks.keeps("3 MUST -1 with NONE", x -> x.in(0, 4, NONE, -1), BAD);
        desks.keeps("3 MUST NONE with NONE", x -> x.in(0, 4, NONE, NONE), BAD);
        desks.keeps("3 MUST 2 with NONE, where it is not IN", x -> x.in(0, 0, NONE, 2), BAD);
        desks.keeps("3 MUST 1 with NONE, where it is not IN", x -> x.in(0, 0, NONE, 1), NONE);
        desks.changes("3 MUST 0 with NONE", x -> x.in(0, 4, NONE, 0), 1);
        desks.changes("3 MUST 1 with NONE", x -> x.in(0, 4, NONE, 1), 1);
        desks.keeps("3 MUST 2 with a PLACE", x -> x.in(0, 4, 1, 2), BAD);
    }

    /** "CUES 0 .. 29": the last CUE of a TRACK is not beside the first one of the next TRACK. */
    private static void firstAndLastCue() {
        SwingDesk x = Due.desk(8, 5);
        for (int track = 0; track < 8; track++) {
            due.is("3 the last CUE", x.in(track, 29, track, 1), NONE);
        }
        for (int track = 0; track < 8; track++) {
            due.is("3 the first CUE is free", x.told(track, 0, 0), NONE);
            due.is("3 without MUST", x.told(track, 0, 1), 0);
            due.is("3 the first CUE", x.in(track, 0, 9 - track, 0), NONE);
        }
        for (int track = 0; track < 8; track++) {
            due.is("3 the last CUE as it was", x.told(track, 29, 0), track);
            due.is("3 with MUST", x.told(track, 29, 1), 1);
            due.is("3 the first CUE as it was", x.told(track, 0, 0), 9 - track);
            due.is("3 no CUE 30", x.in(track, 30, 0, 0), BAD);
            due.is("3 no CUE -1", x.in(track, -1, 0, 0), BAD);
        }
    }

    /** "(NONE: it is not)"; "MUST (0 also if not IN)" */
    private static void notInAnyMore() {
        SwingDesk x = Due.desk(1, 5);
        due.is("3 not IN, which it was not", x.in(0, 3, NONE, 1), NONE);
        due.is("3 IN", x.in(0, 3, 0, 1), NONE);
        due.is("3 not IN any more", x.in(0, 3, NONE, 1), 0);
        due.is("3 no PLACE", x.told(0, 3, 0), NONE);
        due.is("6 MUST is 0 if not IN", x.told(0, 3, 1), 0);
        due.is("3 its LINES are lost no more", x.cast(1), 20);
        due.is("3 IN again", x.in(0, 3, 0, 0), NONE);
        due.is("3 the old MUST does not come again", x.told(0, 3, 1), 0);
    }

    /** Three TRACKS in CUES 0, 1, 28 and 29, with a LIFT of the first two in each. */
    private static SwingDesk fourLifts() {
        SwingDesk x = Due.desk(3, 5);
        int[] cues = {0, 1, 28, 29};
        for (int cue : cues) {
            for (int track = 0; track < 3; track++) {
                x.in(track, cue, track, 0);
            }
            x.lift(cue, 0, 1);
        }
        return x;
    }

    private static void liftsAre(String what, SwingDesk x, int... has) {
        int[] cues = {0, 1, 28, 29};
        for (int i = 0; i < 4; i++) {
            due.is(what + ", the first in CUE " + cues[i], x.told(0, cues[i], 2), has[i] == 1 ? 1 : NONE);
            due.is(what + ", the second in CUE " + cues[i], x.told(1, cues[i], 2), has[i] == 1 ? 0 : NONE);
        }
        due.is(what + ", LIFTS", x.count(2), has[0] + has[1] + has[2] + has[3]);
    }

    /** "(If it is not IN any more, or is IN anew, LIFTS of it there are no more.)" */
    private static void inAnewEndsLifts() {
        SwingDesk x = fourLifts();
        x.in(0, 0, 0, 0);
        liftsAre("3 the first IN anew as it was", x, 0, 1, 1, 1);
        x.in(1, 29, 1, 0);
        liftsAre("3 the second IN anew as it was", x, 0, 1, 1, 0);
        x.in(0, 28, NONE, 0);
        liftsAre("3 the first not IN", x, 0, 1, 0, 0);
        x.in(2, 1, NONE, 0);
        x.in(2, 1, 5, 1);
        liftsAre("3 one that is in no LIFT", x, 0, 1, 0, 0);
        x.in(1, 1, NONE, 1);
        liftsAre("3 the second not IN", x, 0, 0, 0, 0);
        x.in(1, 1, 1, 0);
        x.in(0, 28, 0, 0);
        liftsAre("3 both are IN again", x, 0, 0, 0, 0);
        due.is("4 there was none", x.lift(28, 0, 1), 0);
    }

    private static void refusedInKeepsLifts() {
        SwingDesk x = fourLifts();
        due.is("3 no PLACE", x.in(0, 0, 10, 0), BAD);
        due.is("3 no MUST", x.in(1, 29, NONE, 2), BAD);
        due.is("3 no CUE", x.in(0, 30, NONE, 0), BAD);
        due.is("3 no TRACK", x.in(3, 28, NONE, 0), BAD);
        liftsAre("3 refused", x, 1, 1, 1, 1);
    }

    /** "one of a CUE at most"; "1 if there was one, else 0" */
    private static void oneLiftOfACue() {
        SwingDesk x = fourLifts();
        due.is("4 the other way", x.lift(0, 1, 0), 1);
        due.is("4 no LIFT more", x.count(2), 4);
        due.is("4 another pair", x.lift(0, 2, 1), 1);
        due.is("4 still no LIFT more", x.count(2), 4);
        due.is("4 the first has none there", x.told(0, 0, 2), NONE);
        due.is("4 the second has the new one", x.told(1, 0, 2), 2);
        due.is("4 the new one too", x.told(2, 0, 2), 1);
        SwingDesk y = Due.desk(2, 5);
        for (int cue = 0; cue < 30; cue++) {
            y.in(0, cue, 0, 0);
            y.in(1, cue, 9, 0);
            due.is("4 there was none in CUE " + cue, y.lift(cue, 1, 0), 0);
            due.is("4 as many as CUES", y.count(2), cue + 1);
        }
        due.is("4 no CUE 30", y.lift(30, 0, 1), BAD);
        due.is("4 no CUE -1", y.lift(-1, 0, 1), BAD);
        due.is("4 thirty", y.count(2), 30);
    }

    /** "BAD: cue, tracks, the same" */
    private static void liftsOfTheLastTracks() {
        SwingDesk x = Due.desk(8, 5);
        x.in(6, 29, 0, 0);
        x.in(7, 29, 9, 0);
        due.is("4 no TRACK 8, second", x.lift(29, 7, 8), BAD);
        due.is("4 no TRACK 8, first", x.lift(29, 8, 7), BAD);
        due.is("4 no TRACK -1, second", x.lift(29, 7, -1), BAD);
        due.is("4 no TRACK -1, first", x.lift(29, -1, 7), BAD);
        due.is("4 the same", x.lift(29, 7, 7), BAD);
        due.is("4 NONE is only told as the first", x.lift(29, 7, NONE), BAD);
        due.is("4 none yet", x.count(2), 0);
        due.is("4 the last two", x.lift(29, 7, 6), 0);
        due.is("4 TRACK 7", x.told(7, 29, 2), 6);
        due.is("4 TRACK 6", x.told(6, 29, 2), 7);
    }

    /** "NO: one of both is not IN it." */
    private static void liftNeedsBothIn() {
        SwingDesk x = Due.desk(3, 5);
        x.in(0, 10, 0, 0);
        x.in(1, 9, 0, 0);
        x.in(1, 11, 0, 0);
        due.is("4 IN the CUES beside", x.lift(10, 0, 1), NO);
        due.is("4 the first is not IN", x.lift(10, 1, 0), NO);
        due.is("4 neither is", x.lift(10, 1, 2), NO);
        due.is("4 no LIFT by it", x.count(2), 0);
        x.in(1, 10, 0, 0);
        due.is("4 both are, at one PLACE", x.lift(10, 0, 1), 0);
        due.is("4 one LIFT", x.count(2), 1);
        due.is("4 NO beside a LIFT", x.lift(10, 0, 2), NO);
        due.is("4 which stays", x.told(0, 10, 2), 1);
    }

    /** "(track NONE: none)" */
    private static void liftNone() {
        SwingDesk x = fourLifts();
        due.is("4 none, the other a TRACK", x.lift(0, NONE, 1), 1);
        due.is("4 none, the other no TRACK", x.lift(1, NONE, 8), 1);
        due.is("4 none, the other NONE", x.lift(28, NONE, NONE), 1);
        liftsAre("4 one is left", x, 0, 0, 0, 1);
        due.is("4 there was none", x.lift(0, NONE, 1), 0);
        due.is("4 there was none where none is IN", x.lift(15, NONE, Due.MOST), 0);
        due.is("4 no CUE 30", x.lift(30, NONE, 1), BAD);
        due.is("4 no CUE -1", x.lift(-1, NONE, 1), BAD);
        liftsAre("4 one is left still", x, 0, 0, 0, 1);
        due.is("4 both stay IN", x.told(0, 0, 0), 0);
    }

    /** "(the first lifts the second)" */
    private static void firstLiftsSecond() {
        SwingDesk x = fourLifts();
        Due.people(x, 3, 0, 5);
        for (int person = 0; person < 3; person++) {
            x.did(person, person);
        }
        x.rehearse(0, 1);
        x.cast(100);
        due.is("4 the first lifts", x.done(0), 1);
        x.lift(0, 1, 0);
        due.is("4 the second lifts", x.done(0), 0);
        due.is("4 elsewhere the first", x.done(1), 1);
    }

    private static SwingDesk laid(int places, int value) {
        SwingDesk x = Due.desk(2, 5);
        x.sheet(1, places);
        for (int place = 0; place < places; place++) {
            x.mark(1, place, value);
        }
        return x;
    }

    /** "PLACES of a TRACK from a CUE on come from a SHEET, place by place": as many as there are CUES. */
    private static void laidToTheLastCue() {
        int[][] lays = {{0, 30}, {1, 29}, {15, 15}, {28, 2}, {29, 1}, {29, 0}};
        for (int[] l : lays) {
            SwingDesk x = laid(l[1], 9);
            due.is("5 from CUE " + l[0], x.lay(0, l[0], 1), l[1]);
            for (int cue = 0; cue < 30; cue++) {
                boolean in = cue >= l[0] && cue < l[0] + l[1];
                due.is("5 from CUE " + l[0] + ", in CUE " + cue, x.told(0, cue, 0), in ? 9 : NONE);
                due.is("5 the other TRACK in CUE " + cue, x.told(1, cue, 0), NONE);
            }
        }
    }

    /** "INDEX: the SHEET has more places than there are CUES from that one on." */
    private static void laidOneTooMany() {
        int[][] lays = {{1, 30}, {2, 29}, {16, 15}, {29, 2}, {29, 30}};
        for (int[] l : lays) {
            Twins desks = new Twins(due, () -> laid(l[1], 9));
            desks.keeps("5 " + l[1] + " from CUE " + l[0], x -> x.lay(0, l[0], 1), INDEX);
        }
        Twins desks = new Twins(due, () -> laid(30, 9));
        desks.keeps("5 no CUE 30", x -> x.lay(0, 30, 1), BAD);
        desks.keeps("5 no CUE -1", x -> x.lay(0, -1, 1), BAD);
        desks.keeps("5 MISSING", x -> x.lay(0, 0, 0), NOTHING);
        desks.changes("5 all thirty", x -> x.lay(0, 0, 1), 30);
    }

    private static void laidOfNoPlaces() {
        Twins desks = new Twins(due, () -> {
            SwingDesk x = fourLifts();
            x.sheet(0, 0);
            return x;
        });
        desks.keeps("5 no places from CUE 0", x -> x.lay(0, 0, 0), 0);
        desks.keeps("5 no places from CUE 29", x -> x.lay(1, 29, 0), 0);
        desks.keeps("5 no places from CUE 30", x -> x.lay(1, 30, 0), BAD);
    }

    /** "(places not 0 .. 9: it is not IN)": bytes, once they have wrapped around. */
    private static void laidBytes() {
        int[][] bytes = {{0, 0}, {9, 9}, {10, NONE}, {-1, NONE}, {127, NONE}, {128, NONE}, {-128, NONE}, {255, NONE},
            {256, 0}, {265, 9}, {266, NONE}, {-247, 9}, {-246, NONE}, {-256, 0}, {-257, NONE}, {Due.LEAST, 0},
            {Due.MOST, NONE}, {NONE, NONE}};
        for (int[] b : bytes) {
            SwingDesk x = laid(2, b[0]);
            x.in(0, 6, 4, 1);
            due.is("5 CUES told with " + b[0], x.lay(0, 6, 1), 2);
            due.is("5 " + b[0] + " where it was IN", x.told(0, 6, 0), b[1]);
            due.is("5 " + b[0] + " where it was not", x.told(0, 7, 0), b[1]);
            due.is("5 MUST 0", x.told(0, 6, 1), 0);
        }
    }

    /** "(As in() for each.)": LIFTS end where it is told, and there alone. */
    private static void laidAsIn() {
        SwingDesk x = fourLifts();
        x.sheet(0, 1);
        due.is("5 as it was", x.lay(0, 0, 0), 1);
        liftsAre("5 told as it was", x, 0, 1, 1, 1);
        x.mark(0, 0, 10);
        due.is("5 not IN", x.lay(1, 29, 0), 1);
        liftsAre("5 told not IN", x, 0, 1, 1, 0);
        x.sheet(0, 2);
        due.is("5 two CUES", x.lay(2, 0, 0), 2);
        liftsAre("5 one that is in no LIFT", x, 0, 1, 1, 0);
        x.sheet(0, 27);
        due.is("5 the CUES between", x.lay(0, 2, 0), 27);
        liftsAre("5 to CUE 28", x, 0, 1, 0, 0);
        x.sheet(0, 26);
        x.lift(28, 0, 1);
        due.is("5 one CUE less", x.lay(0, 2, 0), 26);
        liftsAre("5 to CUE 27", x, 0, 1, 1, 0);
        due.is("5 one too many", x.lay(0, 5, 0), INDEX);
        liftsAre("5 refused", x, 0, 1, 1, 0);
    }

    /** "what 0 PLACE (NONE), 1 MUST (0 also if not IN), 2 the TRACK with which it has a LIFT there (NONE). BAD." */
    private static void toldOfOneCue() {
        SwingDesk x = fourLifts();
        x.in(2, 29, 9, 1);
        int[][] told = {{0, 29, 0, 0}, {2, 29, 0, 9}, {2, 29, 1, 1}, {0, 29, 1, 0}, {0, 29, 2, 1}, {1, 29, 2, 0},
            {2, 29, 2, NONE}, {0, 2, 0, NONE}, {0, 2, 1, 0}, {0, 2, 2, NONE}, {0, 27, 2, NONE}, {0, 0, 2, 1},
            {0, 0, 3, BAD}, {0, 0, -1, BAD}, {3, 0, 0, BAD}, {-1, 0, 0, BAD}, {0, 30, 0, BAD}, {0, -1, 0, BAD},
            {3, 30, 3, BAD}};
        for (int[] t : told) {
            due.is("6 told(" + t[0] + ", " + t[1] + ", " + t[2] + ")", x.told(t[0], t[1], t[2]), t[3]);
        }
    }
}
