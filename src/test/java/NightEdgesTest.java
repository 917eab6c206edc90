/** The sentences of promises 18 to 21, and of HOLDERS and HURT, that name an edge. */
public final class NightEdgesTest {
    private static final Due due = new Due();
    private static final int BAD = Due.BAD, NO = Due.NO, NONE = Due.NONE;
    private static final int ALL = 30000;

    public static void main(String[] args) {
        whoAsBits();
        whoHoldsTwo();
        doneByTheCastAlone();
        doneAtTheEdges();
        holdersAtFirst();
        hurtAtEachCue();
        hurtBehindTheLastCue();
        hurtInNoCue();
        hurtRefused();
        hurtIsOut();
        hurtWithoutTrack();
        takerIsNotOutAtAll();
        takerKnowsOrOwns();
        takerFitsTheDress();
        takerIsFreeAtEachCue();
        takerIsFreeFromThereOn();
        takerIsTheLeast();
        takerByFeudLiftAndPlace();
        tracksByNumber();
        fromTheFirstSuchCue();
        takenAgain();
        mostAreTaken();
        atTheEdges();
        due.end();
    }

    /** One TRACK IN the told CUES, OWNED by PERSON 0, KNOWN by PERSON 1, and THE CAST of it. */
    private static SwingDesk oneTrack(int... cues) {
        SwingDesk x = Due.desk(1, 5);
        Due.people(x, 2, 0, 5);
        for (int cue : cues) {
            x.in(0, cue, 5, 0);
        }
        x.own(0, 0);
        x.did(1, 0);
        x.cast(ALL);
        return x;
    }

    private static void holds(String what, SwingDesk x, int track, int change, int ahead, int behind) {
        for (int cue = 0; cue < 30; cue++) {
            due.is(what + ", HOLDER at CUE " + cue, x.at(track, cue), cue < change ? ahead : behind);
        }
    }

    /** "HOLDERS of all TRACKS that are IN a CUE, there, as bits. BAD; NO: there is no CAST." */
    private static void whoAsBits() {
        SwingDesk x = Due.desk(8, 5);
        Due.people(x, 10, 0, 5);
        for (int track = 0; track < 8; track++) {
            x.own(track + 2, track);
            x.in(track, 29, track, 0);
        }
        x.in(0, 0, 0, 0);
        x.in(7, 28, 0, 0);
        due.is("18 no CAST", x.who(29), NO);
        x.cast(ALL);
        due.is("18 the least", x.who(0), 4);
        due.is("18 nobody", x.who(1), 0);
        due.is("18 the greatest", x.who(28), 512);
        due.is("18 all", x.who(29), 1020);
        due.is("18 no CUE 30", x.who(30), BAD);
        due.is("18 no CUE -1", x.who(-1), BAD);
        x.hurt(9, 29);
        due.is("18 HURT from there on", x.who(29), 508);
        due.is("18 not ahead", x.who(28), 512);
        x.days(1);
        due.is("18 no CAST any more", x.who(29), NO);
    }

    private static void whoHoldsTwo() {
        SwingDesk x = Due.desk(3, 5);
        Due.people(x, 2, 0, 5);
        x.did(1, 0);
        x.did(1, 1);
        x.cast(ALL);
        x.in(0, 6, 0, 0);
        x.in(1, 6, 9, 0);
        x.in(2, 6, 9, 0);
        due.is("18 HOLDER of two, one of them CUT", x.who(6), 2);
        x.in(1, 6, NONE, 0);
        due.is("18 HOLDER of one", x.who(6), 2);
        x.in(0, 6, NONE, 0);
        due.is("18 only a CUT one is IN", x.who(6), 0);
    }

    private static SwingDesk liftOfOwners() {
        SwingDesk x = Due.desk(2, 5);
        Due.people(x, 3, 0, 5);
        int[] cues = {0, 29};
        for (int cue : cues) {
            x.in(0, cue, 0, 0);
            x.in(1, cue, 9, 0);
            x.lift(cue, 0, 1);
        }
        x.own(0, 0);
        x.own(1, 1);
        x.did(2, 0);
        return x;
    }

    /** "Whether the LIFT of a CUE is done by THE CAST (1, 0; HOLDERS do not count)." */
    private static void doneByTheCastAlone() {
        SwingDesk x = liftOfOwners();
        x.cast(ALL);
        due.is("20 taken over", x.hurt(0, 0), 1);
        due.is("21 the HOLDER", x.at(0, 0), 2);
        due.is("19 by THE CAST", x.done(0), 1);
        due.is("19 in the last CUE too", x.done(29), 1);
        x.cast(ALL);
        due.is("19 by the new CAST", x.done(0), 0);
        x.hurt(2, 0);
        x.out(0, 30);
        due.is("19 whoever is OUT", x.done(0), 0);
        x.rehearse(2, 1);
        due.is("19 REHEARSED since", x.done(29), 1);
    }

    /** "BAD; NONE: there is none; NO: there is no CAST." */
    private static void doneAtTheEdges() {
        SwingDesk x = liftOfOwners();
        due.is("19 no CAST", x.done(0), NO);
        due.is("19 no CAST, the last CUE", x.done(29), NO);
        due.is("19 no LIFT, no CAST", x.done(28), NONE);
        due.is("19 no CUE 30", x.done(30), BAD);
        due.is("19 no CUE -1", x.done(-1), BAD);
        x.cast(ALL);
        due.is("19 done", x.done(0), 1);
        due.is("19 no LIFT", x.done(1), NONE);
        due.is("19 no LIFT, ahead of the last", x.done(28), NONE);
        due.is("19 done in the last", x.done(29), 1);
        x.in(0, 0, 0, 0);
        due.is("19 the LIFT is no more", x.done(0), NONE);
        x.days(1);
        due.is("19 no CAST any more", x.done(29), NO);
    }

    /** "THE HOLDER of a TRACK at each CUE is at first who has it in THE CAST." */
    private static void holdersAtFirst() {
        SwingDesk x = oneTrack(15);
        holds("21 at first", x, 0, 0, NONE, 0);
        x.hurt(0, 15);
        x.out(0, 30);
        x.cast(ALL);
        holds("21 at first again", x, 0, 0, NONE, 0);
        SwingDesk y = Due.desk(1, 5);
        y.cast(1);
        holds("21 CUT", y, 0, 0, NONE, NONE);
    }

    /** "OUT from a CUE (0 .. 29) on": "from the first such CUE on" another one is HOLDER. */
    private static void hurtAtEachCue() {
        for (int cue = 0; cue < 30; cue++) {
            SwingDesk x = oneTrack(29);
            due.is("20 from CUE " + cue, x.hurt(0, cue), 1);
            holds("20 from CUE " + cue, x, 0, cue, 0, 1);
            due.is("20 OUT from there", x.out(0, 30), cue);
        }
    }

    /** "if it is IN some CUE from there on" */
    private static void hurtBehindTheLastCue() {
        for (int last = 0; last < 30; last++) {
            SwingDesk x = oneTrack(0, last);
            due.is("20 in the last CUE it is IN", x.hurt(0, last), 1);
            holds("20 in the last CUE it is IN", x, 0, last, 0, 1);
            if (last < 29) {
                SwingDesk y = oneTrack(0, last);
                due.is("20 behind the last CUE it is IN", y.hurt(0, last + 1), 0);
                holds("20 behind the last CUE it is IN", y, 0, last + 1, 0, NONE);
            }
        }
    }

    private static void hurtInNoCue() {
        SwingDesk x = oneTrack();
        due.is("20 IN no CUE", x.hurt(0, 0), 0);
        holds("20 IN no CUE", x, 0, 0, 0, NONE);
        SwingDesk y = oneTrack();
        y.in(0, 29, 5, 0);
        due.is("20 IN a CUE since THE CAST", y.hurt(0, 29), 1);
        holds("20 IN a CUE since THE CAST", y, 0, 29, 0, 1);
    }

    /** "BAD; NO: there is no CAST." */
    private static void hurtRefused() {
        Twins desks = new Twins(due, () -> oneTrack(3, 29));
        desks.keeps("20 CUE 30", x -> x.hurt(0, 30), BAD);
        desks.keeps("20 CUE -1", x -> x.hurt(0, -1), BAD);
        desks.keeps("20 no PERSON 2", x -> x.hurt(2, 0), BAD);
        desks.keeps("20 no PERSON -1", x -> x.hurt(-1, 0), BAD);
        desks.changes("20 CUE 29", x -> x.hurt(0, 29), 1);
        desks.changes("20 CUE 0", x -> x.hurt(0, 0), 1);
        Twins without = new Twins(due, Desks::small);
        without.keeps("20 no CAST", x -> x.hurt(0, 0), NO);
        without.keeps("20 no CAST, the last CUE", x -> x.hurt(2, 29), NO);
    }

    /** "A PERSON is HURT, OUT from a CUE (0 .. 29) on" */
    private static void hurtIsOut() {
        SwingDesk x = oneTrack(10);
        due.is("27 nobody is OUT", x.count(4), 0);
        x.hurt(0, 29);
        due.is("27 one is OUT", x.count(4), 1);
        x.hurt(0, 10);
        due.is("27 one still", x.count(4), 1);
        due.is("15 from the new CUE on", x.out(0, 10), 10);
        due.is("16 and not in THE CAST that is found then", x.cast(ALL), 2);
        due.is("17 but another one", x.has(0), 1);
        x.hurt(1, 29);
        due.is("27 two are OUT", x.count(4), 2);
        x.days(1);
        due.is("27 nobody on the next day", x.count(4), 0);
    }

    private static void hurtWithoutTrack() {
        SwingDesk x = oneTrack(10);
        due.is("20 one who HOLDS nothing", x.hurt(1, 0), 0);
        holds("20 one who HOLDS nothing", x, 0, 0, 0, 0);
        due.is("15 is OUT", x.out(1, 0), 0);
        due.is("20 nobody is left", x.hurt(0, 10), 0);
        holds("20 nobody is left", x, 0, 10, 0, NONE);
        due.is("20 HURT again, HOLDER of nothing there", x.hurt(0, 11), 0);
        holds("20 HURT again", x, 0, 10, 0, NONE);
    }

    /** "who is not OUT at all" */
    private static void takerIsNotOutAtAll() {
        for (int from = 0; from <= 30; from++) {
            SwingDesk x = oneTrack(10);
            x.out(1, from);
            due.is("20 taker OUT from " + from, x.hurt(0, 10), from < 30 ? 0 : 1);
            holds("20 taker OUT from " + from, x, 0, 10, 0, from < 30 ? NONE : 1);
        }
    }

    /** "KNOWS or OWNS it" */
    private static void takerKnowsOrOwns() {
        SwingDesk x = oneTrack(10);
        x.own(0, NONE);
        x.person(0, 5);
        x.own(2, 0);
        x.out(1, 0);
        due.is("20 the OWNER who KNOWS nothing", x.hurt(0, 0), 1);
        due.is("21 the OWNER", x.at(0, 10), 2);
        SwingDesk y = oneTrack(10);
        for (int i = 0; i < 5; i++) {
            y.days(60);
        }
        y.cast(ALL);
        due.is("20 who KNOWS it, though not FRESH", y.hurt(0, 0), 1);
        SwingDesk z = oneTrack(10);
        z.person(3, 5);
        z.out(1, 0);
        due.is("20 who neither KNOWS nor OWNS it", z.hurt(0, 0), 0);
        z.out(0, 30);
        z.cast(ALL);
        z.did(2, 0);
        due.is("20 who learnt it since", z.hurt(0, 0), 1);
    }

    /** "whose DRESS fits" */
    private static void takerFitsTheDress() {
        for (int size = 1; size <= 9; size++) {
            SwingDesk x = Due.desk(1, 5);
            x.person(0, 5);
            x.person(3, size);
            x.in(0, 10, 5, 0);
            x.own(0, 0);
            x.did(1, 0);
            x.cast(ALL);
            due.is("20 taker of SIZE " + size, x.hurt(0, 10), size >= 4 && size <= 6 ? 1 : 0);
        }
    }

    /** TRACK 0 of PERSON 0, IN CUES 10 and 20; TRACK 1 of PERSON 1, who KNOWS TRACK 0, IN one CUE. */
    private static SwingDesk takerIn(int cue) {
        SwingDesk x = Due.desk(2, 5);
        Due.people(x, 2, 0, 5);
        x.in(0, 10, 5, 0);
        x.in(0, 20, 5, 0);
        x.in(1, cue, 0, 0);
        x.own(0, 0);
        x.own(1, 1);
        x.did(1, 0);
        x.cast(ALL);
        return x;
    }

    /** "who at each CUE from there on in which it is IN is HOLDER of no TRACK that is IN that CUE" */
    private static void takerIsFreeAtEachCue() {
        for (int cue = 0; cue < 30; cue++) {
            SwingDesk x = takerIn(cue);
            boolean busy = cue == 10 || cue == 20;
            due.is("20 taker IN CUE " + cue, x.hurt(0, 10), busy ? 0 : 1);
            due.is("20 the taker's own TRACK stays", x.at(1, cue), 1);
        }
    }

    private static void takerIsFreeFromThereOn() {
        for (int from = 9; from <= 21; from++) {
            SwingDesk x = takerIn(10);
            due.is("20 busy in CUE 10, from " + from, x.hurt(0, from), from > 10 && from <= 20 ? 1 : 0);
            SwingDesk y = takerIn(20);
            due.is("20 busy in CUE 20, from " + from, y.hurt(0, from), 0);
            holds("20 busy in CUE 20, from " + from, y, 0, from, 0, NONE);
        }
        SwingDesk x = takerIn(20);
        x.hurt(1, 20);
        x.out(1, 30);
        due.is("20 HOLDER there no more", x.hurt(0, 10), 1);
        due.is("21 the taker", x.at(0, 20), 1);
        due.is("21 not of the other TRACK", x.at(1, 20), NONE);
    }

    /** "the PERSON with the least number" */
    private static void takerIsTheLeast() {
        SwingDesk x = Due.desk(1, 5);
        Due.people(x, 10, 0, 5);
        x.in(0, 0, 0, 0);
        x.own(5, 0);
        for (int person = 9; person >= 0; person--) {
            if (person != 5) {
                x.did(person, 0);
            }
        }
        x.cast(ALL);
        int holder = 5;
        int[] takers = {0, 1, 2, 3, 4, 6, 7, 8, 9};
        for (int taker : takers) {
            due.is("20 the next", x.hurt(holder, 0), 1);
            due.is("21 the least number", x.at(0, 0), taker);
            holder = taker;
        }
        due.is("20 nobody is left", x.hurt(9, 0), 0);
        due.is("21 nobody", x.at(0, 0), NONE);
        due.is("27 all are OUT", x.count(4), 10);
    }

    /** "(FEUDS, LIFTS, PLACES do not count.)" */
    private static void takerByFeudLiftAndPlace() {
        SwingDesk x = Due.desk(3, 5);
        Due.people(x, 3, 0, 5);
        for (int track = 0; track < 2; track++) {
            x.in(track, 10, track, 0);
            x.own(track, track);
        }
        x.in(2, 11, 9, 0);
        x.in(2, 9, 9, 0);
        x.own(2, 2);
        x.did(2, 0);
        x.lift(10, 0, 1);
        x.cast(ALL);
        x.feud(1, 2, 1);
        due.is("20 with a FEUD beside, a LIFT, and far PLACES", x.hurt(0, 10), 1);
        due.is("21 taken over", x.at(0, 10), 2);
        due.is("18 both are there", x.who(10), 6);
    }

    /** "of all TRACKS of which they are the HOLDER at that CUE or a later one, by number" */
    private static void tracksByNumber() {
        SwingDesk x = Due.desk(3, 5);
        Due.people(x, 3, 0, 5);
        for (int track = 0; track < 3; track++) {
            x.did(0, track);
        }
        x.cast(ALL);
        for (int track = 0; track < 3; track++) {
            x.in(track, 29, 0, 0);
            x.did(1, track);
        }
        x.did(2, 2);
        due.is("20 one taker for each", x.hurt(0, 29), 2);
        due.is("21 the least TRACK has the least PERSON", x.at(0, 29), 1);
        due.is("21 whom the second does not get", x.at(1, 29), NONE);
        due.is("21 the third has the next", x.at(2, 29), 2);
        due.is("21 ahead nothing changes", x.at(1, 28), 0);
    }

    /** "from the first such CUE on there is no HOLDER": of a TRACK that was taken over at a later CUE. */
    private static void fromTheFirstSuchCue() {
        SwingDesk x = oneTrack(20, 29);
        x.person(0, 5);
        due.is("20 taken over from CUE 20", x.hurt(0, 20), 1);
        x.out(0, 30);
        x.did(2, 0);
        due.is("20 the taker is HURT from CUE 0, HOLDER from 20", x.hurt(1, 0), 1);
        holds("20 from CUE 20, not 0", x, 0, 20, 0, 0);
        due.is("20 HURT from CUE 25", x.hurt(0, 25), 1);
        holds("20 from CUE 25", x, 0, 25, 0, 2);
        due.is("20 HURT from CUE 24, HOLDER there alone", x.hurt(0, 24), 1);
        holds("20 from CUE 24", x, 0, 24, 0, 2);
        due.is("15 OUT from CUE 24", x.out(0, 24), 24);
        due.is("20 HURT from CUE 29, HOLDER no more", x.hurt(0, 29), 0);
        holds("20 still from CUE 24", x, 0, 24, 0, 2);
        due.is("15 OUT from CUE 29", x.out(0, 30), 29);
    }

    private static void takenAgain() {
        SwingDesk x = oneTrack(0, 29);
        due.is("20 all the night", x.hurt(0, 0), 1);
        holds("20 all the night", x, 0, 0, 0, 1);
        x.out(0, 30);
        due.is("20 in the last CUE", x.hurt(1, 29), 1);
        holds("20 back in the last CUE", x, 0, 29, 1, 0);
        due.is("17 THE CAST stays", x.has(0), 0);
        due.is("20 nobody is left", x.hurt(0, 0), 0);
        holds("20 nobody is left in the last CUE", x, 0, 29, 1, NONE);
    }

    /** "how many TRACKS are taken over": from none to all. */
    private static void mostAreTaken() {
        for (int known = 0; known <= 8; known++) {
            SwingDesk x = Due.desk(8, 5);
            Due.people(x, 2, 2, 5);
            for (int track = 0; track < 8; track++) {
                x.in(track, 3 * track, 5, 0);
                x.did(0, track);
            }
            due.is("16 one has all", x.cast(ALL), 28);
            for (int track = 0; track < known; track++) {
                x.did(1, track);
            }
            due.is("20 taken over", x.hurt(0, 0), known);
        }
    }

    /** "THE HOLDER of a TRACK at a CUE; NONE: nobody. BAD; NO: there is no CAST." */
    private static void atTheEdges() {
        SwingDesk x = Due.desk(8, 5);
        Due.people(x, 10, 0, 5);
        x.own(9, 7);
        due.is("21 no CAST", x.at(7, 29), NO);
        x.cast(ALL);
        due.is("21 the last of all", x.at(7, 29), 9);
        due.is("21 the first CUE", x.at(7, 0), 9);
        due.is("21 CUT", x.at(6, 29), NONE);
        due.is("21 CUT, the first", x.at(0, 0), NONE);
        due.is("21 no CUE 30", x.at(7, 30), BAD);
        due.is("21 no CUE -1", x.at(7, -1), BAD);
        due.is("21 no TRACK 8", x.at(8, 0), BAD);
        due.is("21 no TRACK -1", x.at(-1, 29), BAD);
        x.days(1);
        due.is("21 no CAST any more", x.at(7, 29), NO);
        due.is("21 no TRACK 8 then either", x.at(8, 29), BAD);
        due.is("21 no CUE 30 then either", x.at(7, 30), BAD);
    }
}
