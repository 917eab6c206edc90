/** The sentences of promises 15 to 17, and of FITS, LOSS and TRIES, that name an edge. */
public final class CastEdgesTest {
    private static final Due due = new Due();
    private static final int BAD = Due.BAD, NO = Due.NO, SPENT = Due.SPENT, NONE = Due.NONE;
    private static final int ALL = 30000;

    public static void main(String[] args) {
        outFromZeroToThirty();
        fitsOfWhoIsOut();
        fitsOfOwnersAndKnowers();
        fitsOfDresses();
        fitsInOneCue();
        fitsInTheNextCue();
        fitsOfThreeTracks();
        fitsOfOneTrackAlone();
        fitsOfFeuds();
        fitsOfFeudsInOneCueAlone();
        lossOfCutLines();
        lossOfCovers();
        lossOfCoversByDays();
        lossOfTracksButOne();
        lossOfLiftsByDays();
        lossOfLiftsByOwners();
        lossOfLiftsThatAreCut();
        lossOfManyLiftsOfOne();
        firstByTracks();
        cutIsBehindAll();
        triesToTheLast();
        thirtyThousandTries();
        triesAreOneAtLeast();
        noTracksOrNoPeople();
        spentWithoutCast();
        spentKeepsTheLatest();
        hasOfTheLast();
        due.end();
    }

    /** TRACKS of DRESS 5, each OWNED by the PERSON of its number, all PLAYERS of SIZE 5. */
    private static SwingDesk owned(int tracks) {
        SwingDesk x = Due.desk(tracks, 5);
        Due.people(x, tracks, 0, 5);
        for (int track = 0; track < tracks; track++) {
            x.own(track, track);
        }
        return x;
    }

    /** TRACKS that one PERSON KNOWS, and nobody OWNS. */
    private static SwingDesk known(int tracks) {
        SwingDesk x = Due.desk(tracks, 5);
        x.person(0, 5);
        for (int track = 0; track < tracks; track++) {
            x.did(0, track);
        }
        return x;
    }

    /** "A PERSON is OUT from a CUE on (30: not at all): from which they were (30). BAD." */
    private static void outFromZeroToThirty() {
        SwingDesk x = owned(2);
        int was = 30;
        for (int cue = 0; cue <= 30; cue++) {
            due.is("15 OUT from " + cue, x.out(1, cue), was);
            due.is("27 who is OUT", x.count(4), cue < 30 ? 1 : 0);
            was = cue;
        }
        due.is("15 again not at all", x.out(1, 30), 30);
        due.is("15 no CUE 31", x.out(1, 31), BAD);
        due.is("15 no CUE -1", x.out(1, -1), BAD);
        due.is("15 no PERSON 2", x.out(2, 0), BAD);
        due.is("15 no PERSON -1", x.out(-1, 0), BAD);
        due.is("27 nobody is OUT", x.count(4), 0);
        due.is("15 the other one never was", x.out(0, 29), 30);
    }

    /** "a PERSON who is OUT from a CUE on has no TRACK that is IN that CUE or a later one" */
    private static void fitsOfWhoIsOut() {
        int[] only = {0, 1, 15, 28, 29};
        for (int cue : only) {
            for (int from = 0; from <= 30; from++) {
                SwingDesk x = owned(1);
                x.in(0, cue, 5, 0);
                x.out(0, from);
                due.is("16 IN " + cue + ", OUT from " + from, x.cast(1), from <= cue ? 20 : 0);
            }
        }
        SwingDesk x = owned(1);
        x.in(0, 0, 5, 0);
        x.in(0, 29, 5, 0);
        x.out(0, 29);
        due.is("16 OUT from the last CUE of two", x.cast(1), 20);
        x.in(0, 29, NONE, 0);
        due.is("16 it is not IN that any more", x.cast(1), 0);
        x.out(0, 0);
        due.is("16 OUT all the night", x.cast(1), 20);
        x.in(0, 0, NONE, 0);
        due.is("16 OUT all the night, but IN no CUE", x.cast(1), 0);
    }

    /** "a PERSON has a TRACK that they OWN or KNOW" */
    private static void fitsOfOwnersAndKnowers() {
        SwingDesk x = Due.desk(1, 5);
        Due.people(x, 1, 3, 5);
        due.is("16 neither", x.cast(1), 20);
        x.own(0, 0);
        due.is("16 OWNS it", x.cast(1), 0);
        x.own(0, NONE);
        due.is("16 OWNS it no more", x.cast(1), 20);
        x.did(0, 0);
        due.is("16 KNOWS it", x.cast(1), 0);
        for (int i = 0; i < 6; i++) {
            x.days(60);
        }
        due.is("16 KNOWS it, though not FRESH", x.cast(1), 3);
        x.own(0, 0);
        due.is("16 both", x.cast(1), 0);
    }

    /** "whose DRESS fits (SIZE at most 1 apart from its)": of who KNOWS it as of the OWNER. */
    private static void fitsOfDresses() {
        for (int dress = 1; dress <= 9; dress++) {
            for (int size = 1; size <= 9; size++) {
                SwingDesk x = Due.desk(1, dress);
                x.person(2, size);
                x.did(0, 0);
                boolean fits = Math.max(size, dress) - Math.min(size, dress) <= 1;
                due.is("16 KNOWS, DRESS " + dress + ", SIZE " + size, x.cast(1), fits ? 0 : 20);
                due.is("17 DRESS " + dress + ", SIZE " + size, x.has(0), fits ? 0 : NONE);
            }
        }
    }

    /** "a PERSON has no two TRACKS that are IN one CUE" */
    private static void fitsInOneCue() {
        for (int cue = 0; cue < 30; cue++) {
            SwingDesk x = known(2);
            x.in(0, cue, 4, 0);
            due.is("16 one IN CUE " + cue, x.cast(ALL), 4);
            x.in(1, cue, 4, 0);
            due.is("16 both IN CUE " + cue, x.cast(ALL), 20);
            x.in(0, cue, NONE, 0);
            due.is("16 the other IN CUE " + cue, x.cast(ALL), 4);
        }
    }

    /** "nor such of which one is IN a CUE and the other IN the next one at a PLACE more than 5 apart" */
    private static void fitsInTheNextCue() {
        int[] cues = {0, 14, 28};
        for (int cue : cues) {
            for (int place = 0; place <= 9; place++) {
                for (int next = 0; next <= 9; next++) {
                    int loss = place - next > 5 || next - place > 5 ? 20 : 4;
                    SwingDesk x = known(2);
                    x.in(0, cue, place, 0);
                    x.in(1, cue + 1, next, 0);
                    due.is("16 CUE " + cue + ", " + place + " then " + next, x.cast(ALL), loss);
                    SwingDesk y = known(2);
                    y.in(1, cue, place, 0);
                    y.in(0, cue + 1, next, 0);
                    due.is("16 CUE " + cue + ", TRACK 1 at " + place + " then " + next, y.cast(ALL), loss);
                }
            }
        }
        SwingDesk x = known(2);
        x.in(0, 10, 0, 0);
        x.in(1, 12, 9, 0);
        due.is("16 two CUES on", x.cast(ALL), 4);
        SwingDesk y = known(2);
        y.in(0, 29, 0, 0);
        y.in(1, 0, 9, 0);
        due.is("16 behind the last CUE is not the first", y.cast(ALL), 4);
        y.in(1, 28, 9, 0);
        due.is("16 ahead of the last CUE", y.cast(ALL), 20);
    }

    private static void fitsOfThreeTracks() {
        SwingDesk x = known(3);
        x.in(0, 3, 4, 0);
        x.in(2, 3, 4, 0);
        due.is("16 the first and the third meet", x.cast(ALL), 24);
        due.is("17 the third is CUT", x.has(2), NONE);
        x.in(2, 3, NONE, 0);
        x.in(2, 4, 9, 0);
        due.is("16 5 apart", x.cast(ALL), 8);
        x.in(0, 3, 3, 0);
        due.is("16 6 apart", x.cast(ALL), 24);
    }

    /** Of "two TRACKS" it is said: one TRACK may go as far as it likes from a CUE to the next. */
    private static void fitsOfOneTrackAlone() {
        SwingDesk x = owned(2);
        x.in(0, 0, 0, 0);
        x.in(0, 1, 9, 0);
        x.in(1, 1, 9, 0);
        x.in(1, 2, 0, 0);
        due.is("16 9 apart in one TRACK, and two PEOPLE meet at one PLACE", x.cast(ALL), 0);
    }

    /** "no two PEOPLE with a FEUD have TRACKS that are IN one CUE at PLACES less than 2 apart" */
    private static void fitsOfFeuds() {
        int[] cues = {0, 29};
        for (int cue : cues) {
            for (int place = 0; place <= 9; place++) {
                for (int other = 0; other <= 9; other++) {
                    SwingDesk x = owned(2);
                    x.in(0, cue, place, 0);
                    x.in(1, cue, other, 0);
                    x.feud(1, 0, 1);
                    boolean near = place - other < 2 && other - place < 2;
                    due.is("16 FEUD in CUE " + cue + " at " + place + " and " + other, x.cast(ALL), near ? 20 : 0);
                }
            }
        }
    }

    private static void fitsOfFeudsInOneCueAlone() {
        SwingDesk x = owned(3);
        x.in(0, 10, 4, 0);
        x.in(1, 11, 4, 0);
        x.in(2, 10, 4, 0);
        x.feud(0, 1, 1);
        due.is("16 a FEUD in two CUES", x.cast(ALL), 0);
        x.in(0, 12, 4, 0);
        x.in(1, 12, 6, 0);
        due.is("16 2 apart in one CUE", x.cast(ALL), 0);
        x.in(0, 13, 4, 0);
        x.in(1, 13, 5, 0);
        due.is("16 1 apart in another", x.cast(ALL), 20);
        due.is("17 the later TRACK is CUT", x.has(1), NONE);
        x.feud(1, 0, 0);
        due.is("16 the FEUD is over", x.cast(ALL), 0);
        x.feud(0, 2, 1);
        due.is("16 at one PLACE", x.cast(ALL), 20);
        due.is("17 the third is CUT", x.has(2), NONE);
    }

    /** "of each TRACK that is CUT 20, and 10 more for each CUE in which it has LINES that MUST be had" */
    private static void lossOfCutLines() {
        for (int musts = 0; musts <= 30; musts++) {
            SwingDesk x = Due.desk(1, 5);
            for (int cue = 0; cue < 30; cue++) {
                x.in(0, cue, 5, cue < musts ? 1 : 0);
            }
            due.is("16 " + musts + " with MUST", x.cast(1), 20 + 10 * musts);
        }
        SwingDesk x = Due.desk(8, 5);
        for (int track = 0; track < 8; track++) {
            for (int cue = 0; cue < 30; cue++) {
                x.in(track, cue, track, 1);
            }
        }
        due.is("16 the most that can be CUT", x.cast(1), 8 * 320);
        for (int cue = 0; cue < 30; cue++) {
            x.lift(cue, cue % 8, (cue + 1) % 8);
        }
        due.is("16 and all LIFTS", x.cast(1), 8 * 320 + 180);
    }

    /** "of each TRACK that another one than its OWNER has 2 (1, if that is a SWING; 0, if it has no OWNER)" */
    private static void lossOfCovers() {
        int[] losses = {2, 2, 1, 1};
        for (int kind = 0; kind < 4; kind++) {
            SwingDesk x = owned(1);
            x.person(kind, 5);
            x.did(1, 0);
            due.is("16 the OWNER", x.cast(ALL), 0);
            x.in(0, 29, 5, 0);
            x.out(0, 29);
            due.is("16 KIND " + kind, x.cast(ALL), losses[kind]);
            due.is("17 KIND " + kind, x.has(0), 1);
            x.own(0, NONE);
            due.is("16 KIND " + kind + ", no OWNER", x.cast(ALL), 0);
        }
    }

    /** "and 3 more, if they do not KNOW it or are not FRESH for it" */
    private static void lossOfCoversByDays() {
        int[][] days = {{29, 2, 1, 0, 0}, {30, 5, 1, 3, 0}, {59, 5, 1, 3, 0}, {60, 5, 4, 3, 3}};
        for (int[] d : days) {
            for (int kind = 0; kind < 4; kind++) {
                SwingDesk x = Due.desk(1, 5);
                x.person(kind, 5);
                x.person(0, 1);
                x.did(0, 0);
                x.days(d[0]);
                due.is("16 KIND " + kind + ", " + d[0] + " days, no OWNER", x.cast(1), d[3 + kind / 2]);
                x.own(1, 0);
                due.is("16 KIND " + kind + ", " + d[0] + " days", x.cast(1), d[1 + kind / 2]);
                x.own(1, NONE);
                x.own(0, 0);
                due.is("16 KIND " + kind + ", " + d[0] + " days, the OWNER", x.cast(1), 0);
            }
        }
    }

    /** "of a PERSON, for each TRACK but one that they have, 4" */
    private static void lossOfTracksButOne() {
        for (int tracks = 1; tracks <= 8; tracks++) {
            due.is("16 " + tracks + " of one", known(tracks).cast(ALL), 4 * (tracks - 1));
        }
        SwingDesk x = known(4);
        x.person(0, 5);
        x.did(1, 2);
        x.did(1, 3);
        due.is("16 two of each", x.cast(ALL), 8);
    }

    /** Two TRACKS with a LIFT that PERSON 0 and PERSON 1 KNOW, nobody OWNS. */
    private static SwingDesk liftOfKnowers() {
        SwingDesk x = Due.desk(2, 5);
        Due.people(x, 2, 2, 5);
        x.in(0, 29, 0, 0);
        x.in(1, 29, 9, 0);
        x.did(0, 0);
        x.did(1, 1);
        x.lift(29, 0, 1);
        return x;
    }

    /** "are no pair that is REHEARSED and FRESH: 6 (else the LIFT is done)": 30 days, also of SWINGS. */
    private static void lossOfLiftsByDays() {
        SwingDesk x = liftOfKnowers();
        due.is("16 not REHEARSED", x.cast(ALL), 6);
        due.is("19 not REHEARSED", x.done(29), 0);
        x.rehearse(1, 0);
        due.is("16 the other way", x.cast(ALL), 6);
        x.rehearse(0, 1);
        due.is("16 REHEARSED", x.cast(ALL), 0);
        x.days(29);
        due.is("16 on the last day", x.cast(ALL), 0);
        due.is("19 on the last day", x.done(29), 1);
        x.days(1);
        due.is("16 a day later", x.cast(ALL), 6);
        due.is("19 a day later", x.done(29), 0);
        x.rehearse(0, 1);
        due.is("16 REHEARSED anew", x.cast(ALL), 0);
    }

    /** "whose two PEOPLE do not both OWN these TRACKS" */
    private static void lossOfLiftsByOwners() {
        SwingDesk x = liftOfKnowers();
        x.own(0, 0);
        due.is("16 one OWNS", x.cast(ALL), 6);
        x.own(1, 1);
        due.is("16 both OWN", x.cast(ALL), 0);
        due.is("19 both OWN", x.done(29), 1);
        x.own(0, NONE);
        due.is("16 the other OWNS", x.cast(ALL), 6);
        SwingDesk y = Due.desk(2, 3);
        y.track(7);
        y.person(0, 7);
        y.person(0, 3);
        y.in(1, 0, 0, 0);
        y.in(2, 0, 9, 0);
        y.lift(0, 1, 2);
        y.own(0, 1);
        y.own(1, 2);
        y.did(0, 2);
        y.did(1, 1);
        due.is("16 each has what the other OWNS", y.cast(ALL), 20 + 2 + 2 + 6);
        due.is("17 the second OWNER", y.has(1), 1);
        due.is("17 the first OWNER", y.has(2), 0);
        y.rehearse(1, 0);
        due.is("16 but they are REHEARSED", y.cast(ALL), 20 + 2 + 2);
    }

    /** "of each LIFT of which a TRACK is CUT": 6, once for each LIFT. */
    private static void lossOfLiftsThatAreCut() {
        SwingDesk x = liftOfKnowers();
        x.rehearse(0, 1);
        x.rehearse(1, 0);
        x.out(0, 29);
        due.is("16 the first is CUT", x.cast(ALL), 26);
        x.out(1, 0);
        due.is("16 both are CUT, one LIFT", x.cast(ALL), 46);
        x.out(0, 30);
        due.is("16 the second is CUT", x.cast(ALL), 26);
        x.in(0, 0, 0, 0);
        x.in(1, 0, 9, 0);
        x.lift(0, 1, 0);
        due.is("16 two LIFTS", x.cast(ALL), 32);
        x.out(1, 30);
        due.is("16 none is CUT", x.cast(ALL), 0);
    }

    /** One TRACK lifts others, or is lifted by them, in CUES of their own. */
    private static void lossOfManyLiftsOfOne() {
        for (int one = 0; one < 4; one++) {
            SwingDesk x = Due.desk(4, 5);
            Due.people(x, 4, 0, 5);
            for (int track = 0; track < 4; track++) {
                x.did(track, track);
                x.in(track, track, 2 * track, 0);
                x.in(one, track, 2 * one, 0);
            }
            int lifts = 0;
            for (int other = 0; other < 4; other++) {
                lifts += other == one ? 0 : 1;
                x.lift(other, one, other);
                due.is("16 TRACK " + one + " lifts " + lifts, x.cast(ALL), 6 * lifts);
            }
            for (int other = 0; other < 4; other++) {
                x.lift(other, other, one);
            }
            due.is("16 TRACK " + one + " is lifted by three", x.cast(ALL), 18);
            for (int other = 0; other < 4; other++) {
                lifts -= other == one ? 0 : 1;
                x.rehearse(other, one);
                due.is("16 one pair more is REHEARSED", x.cast(ALL), 6 * lifts);
            }
        }
    }

    /** "of several the first: by TRACKS, the lesser PERSON at the first at which they differ" */
    private static void firstByTracks() {
        SwingDesk x = Due.desk(8, 5);
        Due.people(x, 10, 0, 5);
        x.did(9, 0);
        x.did(8, 0);
        x.did(9, 7);
        x.did(8, 7);
        due.is("16 either way", x.cast(ALL), 120);
        due.is("17 the lesser PERSON at the first", x.has(0), 8);
        due.is("17 the other one at the last", x.has(7), 9);
        x.did(0, 7);
        due.is("16 three ways", x.cast(ALL), 120);
        due.is("17 the first stays", x.has(0), 8);
        due.is("17 the least at the last", x.has(7), 0);
        x.own(9, 0);
        due.is("16 less loss goes ahead of the number", x.cast(ALL), 120);
        due.is("17 the OWNER, though greater", x.has(0), 9);
    }

    /** "(CUT is behind all)" */
    private static void cutIsBehindAll() {
        SwingDesk x = known(2);
        x.in(0, 3, 3, 1);
        x.in(1, 3, 9, 1);
        due.is("16 one of two is CUT", x.cast(ALL), 30);
        due.is("17 not the first", x.has(0), 0);
        due.is("17 but the second", x.has(1), NONE);
        x.in(1, 29, 0, 1);
        due.is("16 the second has more LINES", x.cast(ALL), 30);
        due.is("17 so the first is CUT", x.has(0), NONE);
        due.is("17 and the second had", x.has(1), 0);
        x.in(0, 29, 0, 1);
        due.is("16 as many LINES again", x.cast(ALL), 40);
        due.is("17 not the first again", x.has(0), 0);
    }

    private static void spentBelow(String what, SwingDesk x, int tries, int loss) {
        if (tries > 1) {
            due.is("16 " + what + ", one TRY too few", x.cast(tries - 1), SPENT);
        }
        due.is("16 " + what + ", as many TRIES as it needs", x.cast(tries), loss);
        due.is("16 " + what + ", one TRY more", x.cast(tries + 1), loss);
    }

    /** "a PERSON with whom all FITS that was put so far is put (a TRY). SPENT: more than so many TRIES would be done." */
    private static void triesToTheLast() {
        spentBelow("one TRACK of one", known(1), 1, 0);
        spentBelow("two of one", known(2), 3, 4);
        spentBelow("eight of one", known(8), 255, 28);
        spentBelow("eight OWNED", owned(8), 255, 0);
        SwingDesk x = known(2);
        x.in(0, 7, 0, 0);
        x.in(1, 7, 9, 0);
        spentBelow("two that meet", x, 2, 20);
        SwingDesk y = known(1);
        y.person(0, 2);
        y.did(1, 0);
        y.person(0, 5);
        spentBelow("who does not FIT is no TRY", y, 1, 0);
        SwingDesk z = owned(2);
        z.in(0, 0, 0, 0);
        z.in(1, 0, 1, 0);
        spentBelow("two without a FEUD", z, 3, 0);
        z.feud(0, 1, 1);
        spentBelow("two with a FEUD", z, 2, 20);
        z.out(1, 0);
        spentBelow("one is OUT", z, 1, 20);
    }

    /** All TRACKS are IN one CUE; each is KNOWN by the PEOPLE from one to another number. */
    private static SwingDesk inOneCue(int[][] fromTo) {
        SwingDesk x = Due.desk(fromTo.length, 5);
        Due.people(x, 10, 0, 5);
        for (int track = 0; track < fromTo.length; track++) {
            x.in(track, 12, track, 0);
            for (int person = fromTo[track][0]; person <= fromTo[track][1]; person++) {
                x.did(person, track);
            }
        }
        return x;
    }

    /**
     * "with so many TRIES (1 .. 30000)". Each way that FITS but the one that CUTS all ends in a TRY of its own; these
     * rows have 30001 and 30002 ways, which are counted again here.
     */
    private static void thirtyThousandTries() {
        int[][] last = {{0, 4}, {2, 8}, {0, 3}, {4, 9}, {3, 9}, {2, 7}};
        int[][] beyond = {{2, 9}, {3, 7}, {4, 9}, {2, 5}, {0, 6}, {3, 9}};
        due.is("16 ways, the last", ways(last, 0, 0), 30001);
        due.is("16 ways, beyond", ways(beyond, 0, 0), 30002);
        SwingDesk x = inOneCue(last);
        due.is("16 29999 are too few", x.cast(29999), SPENT);
        due.is("16 no CAST by it", x.who(12), NO);
        due.is("16 30000 are enough", x.cast(30000), 0);
        due.is("16 no 30001", x.cast(30001), BAD);
        due.is("16 the CAST stays", x.has(0), 0);
        SwingDesk y = inOneCue(beyond);
        due.is("16 30001 are needed", y.cast(30000), SPENT);
        due.is("16 none by it", y.who(12), NO);
        y.out(9, 12);
        due.is("16 without one PERSON", y.cast(30000), 0);
    }

    private static int ways(int[][] fromTo, int track, int taken) {
        if (track == fromTo.length) {
            return 1;
        }
        int ways = ways(fromTo, track + 1, taken);
        for (int person = fromTo[track][0]; person <= fromTo[track][1]; person++) {
            ways += (taken >> person & 1) == 1 ? 0 : ways(fromTo, track + 1, taken | 1 << person);
        }
        return ways;
    }

    private static void triesAreOneAtLeast() {
        Twins desks = new Twins(due, () -> known(1));
        desks.keeps("16 no TRIES", x -> x.cast(0), BAD);
        desks.keeps("16 below 0", x -> x.cast(-1), BAD);
        desks.keeps("16 30001", x -> x.cast(30001), BAD);
        desks.changes("16 one", x -> x.cast(1), 0);
        desks.changes("16 30000", x -> x.cast(30000), 0);
        Twins cast = new Twins(due, Desks::full);
        cast.keeps("16 no TRIES beside a CAST", x -> x.cast(0), BAD);
        cast.keeps("16 30001 beside a CAST", x -> x.cast(30001), BAD);
    }

    private static void noTracksOrNoPeople() {
        SwingDesk x = new SwingDesk();
        due.is("16 neither", x.cast(1), 0);
        due.is("18 it is a CAST", x.who(0), 0);
        Due.people(x, 10, 0, 5);
        due.is("16 no TRACKS", x.cast(1), 0);
        SwingDesk y = Due.desk(8, 5);
        due.is("16 no PEOPLE", y.cast(1), 160);
        due.is("17 CUT", y.has(7), NONE);
        due.is("21 CUT, but there is a CAST", y.at(7, 29), NONE);
    }

    private static void spentWithoutCast() {
        Twins desks = new Twins(due, () -> owned(4));
        desks.keeps("16 SPENT at once", x -> x.cast(1), SPENT);
        desks.keeps("16 SPENT at the end", x -> x.cast(14), SPENT);
        desks.changes("16 not SPENT", x -> x.cast(15), 0);
    }

    /** "SPENT (the latest CAST stays)": also what was HURT in it, and who is OUT. */
    private static void spentKeepsTheLatest() {
        Twins desks = new Twins(due, Desks::full);
        desks.keeps("16 SPENT beside a CAST", x -> x.cast(1), SPENT);
        desks.keeps("16 SPENT late beside a CAST", x -> x.cast(30), SPENT);
        desks.changes("16 CAST anew", x -> x.cast(30000) >= 0 ? 1 : 0, 1);
        SwingDesk x = owned(3);
        x.cast(7);
        x.in(0, 4, 4, 1);
        x.out(0, 4);
        due.is("16 SPENT with another one OUT", x.cast(2), SPENT);
        due.is("17 of the latest CAST", x.has(0), 0);
        due.is("16 enough", x.cast(3), 30);
        due.is("17 of the new CAST", x.has(0), NONE);
        x.out(0, 30);
        due.is("16 SPENT again", x.cast(6), SPENT);
        due.is("17 of the latest, CUT", x.has(0), NONE);
    }

    /** "The PERSON of a TRACK in THE CAST; NONE: it is CUT, or there is no CAST. BAD." */
    private static void hasOfTheLast() {
        SwingDesk x = owned(7);
        x.track(5);
        due.is("17 no CAST", x.has(7), NONE);
        due.is("16 one is CUT", x.cast(ALL), 20);
        due.is("17 the first", x.has(0), 0);
        due.is("17 the last that is had", x.has(6), 6);
        due.is("17 CUT", x.has(7), NONE);
        due.is("17 no TRACK 8", x.has(8), BAD);
        due.is("17 no TRACK -1", x.has(-1), BAD);
        x.person(0, 5);
        Due.people(x, 2, 0, 5);
        x.own(9, 7);
        due.is("17 an OWNER does not change the CAST", x.has(7), NONE);
        due.is("16 none is CUT", x.cast(ALL), 0);
        due.is("17 the last of both", x.has(7), 9);
        x.days(1);
        due.is("17 no CAST any more", x.has(7), NONE);
        due.is("17 no TRACK 8 then either", x.has(8), BAD);
    }
}
