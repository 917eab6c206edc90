/** Promises 22 and 23: plan, putIn. */
public final class RehearsalTest {
    private static final Due due = new Due();
    private static final int BAD = Due.BAD, NO = Due.NO, NONE = Due.NONE;

    public static void main(String[] args) {
        twoFresh();
        hours();
        leastHours();
        oneEach();
        lesserTrackFirst();
        theMost();
        putInsBad();
        due.end();
    }

    /** People who did the told tracks sixty days ago. */
    private static SwingDesk stale(int tracks, int[]... known) {
        SwingDesk x = Due.desk(tracks, 5);
        for (int person = 0; person < known.length; person++) {
            x.person(person % 4, 1);
            for (int track : known[person]) {
                x.did(person, track);
            }
        }
        x.days(60);
        return x;
    }

    private static int[] of(int... tracks) {
        return tracks;
    }

    private static void planIs(String what, SwingDesk x, int hours, int... putIns) {
        due.is(what + ": hours", x.plan(), hours);
        for (int person = 0; person < putIns.length; person++) {
            due.is(what + ": PERSON " + person, x.putIn(person), putIns[person]);
        }
    }

    private static void cues(SwingDesk x, int track, int many) {
        for (int cue = 0; cue < many; cue++) {
            x.in(track, cue, 0, 0);
        }
    }

    private static void twoFresh() {
        SwingDesk x = stale(1, of(0), of(0), of());
        planIs("22 both not FRESH", x, 2, 0, 0, NONE);
        x.did(0, 0);
        planIs("22 one FRESH", x, 1, NONE, 0, NONE);
        x.did(2, 0);
        planIs("22 two FRESH", x, 0, NONE, NONE, NONE);
        x.out(0, 0);
        x.out(1, 0);
        planIs("22 OUT does not count", x, 0, NONE, NONE, NONE);
        x.track(5);
        planIs("22 a TRACK that nobody KNOWS", x, NO, NO, NO, NO);
        SwingDesk y = stale(1, of(0));
        planIs("22 one alone", y, NO, NO);
        y.own(0, 0);
        y.person(0, 5);
        y.own(0, NONE);
        y.own(1, 0);
        planIs("22 OWNING does not count", y, NO, NO, NO);
        planIs("22 no TRACKS", stale(0, of(), of()), 0, NONE, NONE);
    }

    private static void hours() {
        int[][] due = {{0, 2}, {3, 2}, {4, 4}, {7, 4}, {8, 6}, {28, 16}, {30, 16}};
        for (int[] d : due) {
            SwingDesk x = stale(1, of(0), of(0));
            cues(x, 0, d[0]);
            planIs("22 IN " + d[0] + " CUES", x, d[1], 0, 0);
        }
    }

    private static void leastHours() {
        SwingDesk x = stale(2, of(0, 1), of(0), of(1), of(1));
        cues(x, 0, 8);
        planIs("22 four of four", stale(2, of(0, 1), of(0), of(1), of(1)), 4, 0, 0, 1, 1);
        x.did(1, 0);
        x.did(3, 1);
        planIs("22 3 hours and 1", x, 4, 0, NONE, 1, NONE);
        x.did(0, 0);
        planIs("22 one hour, of the lesser PERSON", x, 1, 1, NONE, NONE, NONE);
    }

    private static void oneEach() {
        SwingDesk x = stale(2, of(0, 1), of(0, 1), of(0, 1));
        planIs("22 three for four PUT-INS", x, NO, NO, NO, NO);
        x.did(0, 0);
        planIs("22 who is FRESH for one has a PUT-IN for the other", x, 3, 1, 0, 1);
        SwingDesk y = stale(2, of(0, 1), of(0, 1), of(1), of(1), of(0));
        y.did(2, 0);
        y.did(4, 0);
        planIs("22 FRESH ones need none", y, 2, 1, 1, NONE, NONE, NONE);
    }

    private static void lesserTrackFirst() {
        SwingDesk x = stale(2, of(0, 1), of(0, 1), of(0, 1), of(0, 1), of(0, 1));
        planIs("22 the lesser TRACK, none behind all", x, 4, 0, 0, 1, 1, NONE);
        SwingDesk y = stale(2, of(1), of(0, 1), of(0, 1), of(0), of(1));
        planIs("22 by PEOPLE in turn", y, 4, 1, 0, 0, NONE, 1);
        SwingDesk z = stale(3, of(0, 2), of(0, 1), of(1, 2), of(0, 1, 2), of(0, 1, 2), of(0, 1, 2));
        planIs("22 three TRACKS", z, 6, 0, 0, 1, 1, 2, 2);
    }

    private static void theMost() {
        SwingDesk x = Due.desk(8, 5);
        for (int person = 0; person < 10; person++) {
            x.person(0, 5);
            for (int track = 0; track < 8; track++) {
                x.did(person, track);
            }
        }
        x.days(30);
        for (int track = 2; track < 8; track++) {
            x.did(9, track);
        }
        planIs("22 ten PUT-INS, the last for no TRACK of which they are FRESH", x, 10, 0, 0, 1, 2, 3, 4, 5, 6, 7, 1);
        SwingDesk y = Due.desk(8, 5);
        Due.people(y, 10, 3, 5);
        planIs("22 sixteen are needed", y, NO, NO);
        for (int track = 0; track < 8; track++) {
            y.did(4, track);
            y.did(7, track);
        }
        planIs("22 none are needed", y, 0, NONE, NONE, NONE, NONE, NONE, NONE, NONE, NONE, NONE, NONE);
    }

    private static void putInsBad() {
        SwingDesk x = stale(1, of(0), of(0));
        int[] bad = {2, -1, NONE, Due.LEAST, Due.MOST};
        for (int person : bad) {
            due.is("23 putIn(" + person + ")", x.putIn(person), BAD);
        }
        x.track(5);
        due.is("23 BAD stands ahead of NO", x.putIn(2), BAD);
        due.is("23 NO", x.putIn(1), NO);
        due.is("23 a PUT-IN changes no day", x.fresh(0, 0), 0);
        due.is("23 found anew", stale(1, of(0), of(0)).putIn(1), 0);
    }
}
