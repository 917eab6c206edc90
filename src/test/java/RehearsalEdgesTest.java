/** The sentences of promises 22 and 23, and of REHEARSALS, that name an edge. */
public final class RehearsalEdgesTest {
    private static final Due due = new Due();
    private static final int BAD = Due.BAD, NO = Due.NO, NONE = Due.NONE;

    public static void main(String[] args) {
        noTracks();
        twoForEachTrack();
        manyForOneAreNoneForAnother();
        freshByDays();
        hoursByCues();
        mostHours();
        onePutInEach();
        tenPutIns();
        elevenPutIns();
        leastHoursGoAhead();
        lesserTrackThenNone();
        whoKnowsItNot();
        putInIsFoundAnew();
        putInOfTheLast();
        asksChangeNothing();
        due.end();
    }

    /** TRACKS that the first so many PEOPLE KNOW, none of them FRESH for any. */
    private static SwingDesk stale(int tracks, int people) {
        SwingDesk x = Due.desk(tracks, 5);
        Due.people(x, people, 0, 5);
        for (int person = 0; person < people; person++) {
            for (int track = 0; track < tracks; track++) {
                x.did(person, track);
            }
        }
        x.days(30);
        return x;
    }

    private static void planIs(String what, SwingDesk x, int hours, int... putIns) {
        due.is("22 " + what + ": HOURS", x.plan(), hours);
        for (int person = 0; person < putIns.length; person++) {
            due.is("23 " + what + ": PERSON " + person, x.putIn(person), putIns[person]);
        }
    }

    private static void noTracks() {
        planIs("nothing at all", new SwingDesk(), 0);
        planIs("ten PEOPLE, no TRACK", stale(0, 10), 0, NONE, NONE, NONE, NONE, NONE, NONE, NONE, NONE, NONE, NONE);
        planIs("a TRACK, no PEOPLE", Due.desk(1, 5), NO);
    }

    /** "by which each TRACK has two PEOPLE or more who are FRESH for it or have a PUT-IN for it" */
    private static void twoForEachTrack() {
        planIs("one who KNOWS it", stale(1, 1), NO, NO);
        planIs("two", stale(1, 2), 2, 0, 0);
        planIs("three", stale(1, 3), 2, 0, 0, NONE);
        SwingDesk x = stale(1, 3);
        x.did(2, 0);
        planIs("one of three is FRESH", x, 1, 0, NONE, NONE);
        x.did(1, 0);
        planIs("two of three are FRESH", x, 0, NONE, NONE, NONE);
        x.did(0, 0);
        planIs("three are FRESH", x, 0, NONE, NONE, NONE);
        SwingDesk y = stale(1, 1);
        y.did(0, 0);
        planIs("one FRESH, nobody else", y, NO, NO);
        y.person(0, 5);
        y.own(1, 0);
        planIs("one FRESH and an OWNER who does not KNOW it", y, NO, NO, NO);
    }

    /** Each TRACK needs its own two, however many there are for the TRACKS beside it. */
    private static void manyForOneAreNoneForAnother() {
        for (int lacking = 0; lacking < 3; lacking++) {
            for (int knowers = 0; knowers <= 3; knowers++) {
                SwingDesk x = Due.desk(3, 5);
                Due.people(x, 10, 0, 5);
                for (int person = 0; person < 10; person++) {
                    for (int track = 0; track < 3; track++) {
                        if (track != lacking || person < knowers) {
                            x.did(person, track);
                        }
                    }
                }
                x.days(30);
                due.is("22 " + knowers + " for TRACK " + lacking, x.plan(), knowers < 2 ? NO : 6);
            }
        }
    }

    /** FRESH "below 30 (below 60, of SWINGS)" */
    private static void freshByDays() {
        int[][] days = {{29, 0, 0}, {30, 2, 0}, {59, 2, 0}, {60, 2, 2}};
        for (int[] d : days) {
            for (int kind = 0; kind < 4; kind++) {
                SwingDesk x = Due.desk(1, 5);
                Due.people(x, 2, kind, 5);
                x.did(0, 0);
                x.did(1, 0);
                x.days(d[0]);
                int hours = d[1 + kind / 2];
                int track = hours > 0 ? 0 : NONE;
                planIs("KIND " + kind + " after " + d[0], x, hours, track, track);
            }
        }
    }

    /** "takes as many HOURS as the CUES that it is IN, / 4, and 1" */
    private static void hoursByCues() {
        for (int cues = 0; cues <= 30; cues++) {
            SwingDesk x = stale(1, 2);
            for (int cue = 29; cue > 29 - cues; cue--) {
                x.in(0, cue, 0, cue % 2);
            }
            int each = 1;
            for (int four = 4; four <= cues; four += 4) {
                each++;
            }
            planIs("IN " + cues + " CUES", x, 2 * each, 0, 0);
        }
        SwingDesk x = stale(1, 2);
        for (int cue = 0; cue < 4; cue++) {
            x.in(0, cue, 0, 0);
        }
        planIs("IN four", x, 4, 0, 0);
        x.in(0, 3, NONE, 0);
        planIs("not IN the fourth any more", x, 2, 0, 0);
    }

    private static void mostHours() {
        SwingDesk x = stale(5, 10);
        x.sheet(0, 30);
        for (int track = 0; track < 5; track++) {
            x.lay(track, 0, 0);
        }
        planIs("ten PUT-INS of eight HOURS", x, 80, 0, 0, 1, 1, 2, 2, 3, 3, 4, 4);
    }

    /** "PUT-INS, of each PERSON one at most" */
    private static void onePutInEach() {
        planIs("four PUT-INS of three", stale(2, 3), NO, NO, NO, NO);
        planIs("four PUT-INS of four", stale(2, 4), 4, 0, 0, 1, 1);
        SwingDesk x = stale(2, 3);
        x.did(2, 1);
        planIs("three PUT-INS of three", x, 3, 0, 1, 0);
        SwingDesk y = stale(2, 2);
        y.did(0, 0);
        planIs("three PUT-INS of two", y, NO, NO, NO);
        y.did(1, 1);
        planIs("two PUT-INS of two", y, 2, 1, 0);
    }

    private static void tenPutIns() {
        planIs("ten PUT-INS of ten", stale(5, 10), 10, 0, 0, 1, 1, 2, 2, 3, 3, 4, 4);
        SwingDesk x = stale(8, 10);
        for (int track = 0; track < 6; track++) {
            x.did(0, track);
        }
        planIs("ten PUT-INS for eight TRACKS", x, 10, 6, 0, 1, 2, 3, 4, 5, 6, 7, 7);
        planIs("eight PUT-INS of nine", stale(4, 9), 8, 0, 0, 1, 1, 2, 2, 3, 3, NONE);
    }

    private static void elevenPutIns() {
        planIs("twelve PUT-INS of ten", stale(6, 10), NO, NO);
        SwingDesk x = stale(6, 10);
        x.did(0, 5);
        planIs("eleven PUT-INS of ten", x, NO, NO, NO);
        x.did(1, 5);
        planIs("ten PUT-INS again", x, 10, 0, 0, 1, 1, 2, 2, 3, 3, 4, 4);
        planIs("sixteen PUT-INS of ten", stale(8, 10), NO, NO);
    }

    /** "THE PLAN is the one with the least HOURS" */
    private static void leastHoursGoAhead() {
        SwingDesk x = Due.desk(2, 5);
        Due.people(x, 5, 0, 5);
        x.did(0, 0);
        x.did(0, 1);
        x.did(1, 1);
        x.did(2, 0);
        x.days(30);
        x.did(3, 0);
        x.did(3, 1);
        x.sheet(0, 4);
        x.lay(0, 0, 0);
        planIs("each TRACK lacks one", x, 3, 0, 1, NONE, NONE, NONE);
        x.did(4, 0);
        planIs("only the second lacks one", x, 1, 1, NONE, NONE, NONE, NONE);
        SwingDesk y = stale(2, 3);
        y.did(2, 0);
        y.did(2, 1);
        planIs("either way as many HOURS", y, 2, 0, 1, NONE);
    }

    /** "of several that with the lesser TRACK at PERSON 0 (none is behind all), then PERSON 1, and so on" */
    private static void lesserTrackThenNone() {
        planIs("none is behind all", stale(1, 10), 2, 0, 0, NONE, NONE, NONE, NONE, NONE, NONE, NONE, NONE);
        SwingDesk x = stale(8, 3);
        for (int track = 0; track < 7; track++) {
            x.did(0, track);
            x.did(1, track);
        }
        planIs("the last TRACK is ahead of none", x, 2, 7, 7, NONE);
        SwingDesk y = Due.desk(2, 5);
        Due.people(y, 6, 0, 5);
        y.did(1, 0);
        for (int person = 2; person < 6; person++) {
            y.did(person, 0);
            y.did(person, 1);
        }
        y.days(30);
        planIs("the first KNOWS none, the second one", y, 4, NONE, 0, 0, 1, 1, NONE);
        SwingDesk z = Due.desk(2, 5);
        Due.people(z, 4, 0, 5);
        z.did(0, 0);
        z.did(0, 1);
        z.did(1, 0);
        z.did(2, 0);
        z.did(3, 1);
        z.days(30);
        planIs("the lesser TRACK is needed of others", z, 4, 1, 0, 0, 1);
    }

    /** "a PUT-IN of a PERSON for a TRACK that they KNOW without being FRESH for it" */
    private static void whoKnowsItNot() {
        SwingDesk x = stale(1, 1);
        x.person(0, 5);
        planIs("the second does not KNOW it", x, NO, NO, NO);
        x.did(1, 0);
        planIs("the second learnt it TODAY", x, 1, 0, NONE);
        x.days(29);
        planIs("29 days later", x, 1, 0, NONE);
        x.days(1);
        planIs("30 days later", x, 2, 0, 0);
        x.out(0, 0);
        planIs("who is OUT counts", x, 2, 0, 0);
    }

    /** "The TRACK of a PERSON's PUT-IN in THE PLAN (found anew); NONE." */
    private static void putInIsFoundAnew() {
        SwingDesk x = stale(1, 3);
        due.is("23 without plan()", x.putIn(0), 0);
        x.did(2, 0);
        due.is("23 still, as one lacks", x.putIn(0), 0);
        due.is("23 no more", x.putIn(1), NONE);
        x.did(1, 0);
        due.is("23 found anew", x.putIn(0), NONE);
        x.track(5);
        due.is("23 there is none", x.putIn(0), NO);
        x.did(0, 1);
        x.did(1, 1);
        due.is("23 there is one again", x.putIn(0), NONE);
    }

    /** "BAD; NO: there is none." */
    private static void putInOfTheLast() {
        SwingDesk x = stale(5, 10);
        due.is("23 the first", x.putIn(0), 0);
        due.is("23 the last", x.putIn(9), 4);
        due.is("23 no PERSON 10", x.putIn(10), BAD);
        due.is("23 no PERSON -1", x.putIn(-1), BAD);
        x.track(5);
        due.is("23 no PLAN", x.putIn(9), NO);
        due.is("23 no PLAN, no PERSON", x.putIn(10), BAD);
    }

    private static void asksChangeNothing() {
        Twins desks = new Twins(due, () -> stale(3, 7));
        desks.keeps("22 plan", SwingDesk::plan, 6);
        desks.keeps("23 putIn", x -> x.putIn(5), 2);
        desks.keeps("23 putIn of none", x -> x.putIn(6), NONE);
        desks.keeps("23 no PERSON", x -> x.putIn(7), BAD);
        Twins none = new Twins(due, () -> stale(4, 7));
        none.keeps("22 no PLAN", SwingDesk::plan, NO);
        none.keeps("23 no PLAN", x -> x.putIn(6), NO);
    }
}
