/** Promises 15 to 21: out, cast, has, who, done, hurt, at. */
public final class TonightTest {
    private static final Due due = new Due();
    private static final int BAD = Due.BAD, NO = Due.NO, SPENT = Due.SPENT, NONE = Due.NONE;
    private static final int ALL = 30000;

    public static void main(String[] args) {
        outs();
        dressFits();
        oneInTwoTracks();
        outFits();
        feudFits();
        lossOfCuts();
        lossOfCovers();
        lossOfDoubles();
        lossOfLifts();
        firstOfEqual();
        tries();
        spentKeepsTheCast();
        castBad();
        hasAndAt();
        whos();
        dones();
        hurts();
        hurtTakers();
        hurtByNumber();
        hurtTwice();
        hurtRefused();
        due.end();
    }

    private static void outs() {
        SwingDesk x = new SwingDesk();
        Due.people(x, 2, 0, 5);
        due.is("15 not at all", x.out(0, 30), 30);
        due.is("15 from 0", x.out(0, 0), 30);
        due.is("15 from 29", x.out(0, 29), 0);
        due.is("15 again", x.out(0, 29), 29);
        due.is("15 another one", x.out(1, 4), 30);
        due.is("15 not at all any more", x.out(0, 30), 29);
        int[][] bad = {{2, 0}, {-1, 0}, {NONE, 0}, {1, -1}, {1, 31}, {1, NONE}, {1, Due.MOST}, {Due.LEAST, 0}};
        for (int[] b : bad) {
            due.is("15 out" + java.util.Arrays.toString(b), x.out(b[0], b[1]), BAD);
        }
        due.is("15 nothing changed", x.out(1, 30), 4);
    }

    private static void dressFits() {
        for (int size = 1; size <= 9; size++) {
            SwingDesk x = Due.desk(2, 5);
            Due.people(x, 2, 0, size);
            x.own(0, 0);
            x.did(1, 1);
            boolean fits = size >= 4 && size <= 6;
            due.is("16 size " + size, x.cast(ALL), fits ? 0 : 40);
            due.is("16 OWNER of size " + size, x.has(0), fits ? 0 : NONE);
            due.is("16 who KNOWS, of size " + size, x.has(1), fits ? 1 : NONE);
        }
        SwingDesk x = Due.desk(1, 5);
        Due.people(x, 3, 2, 5);
        due.is("16 nobody OWNS or KNOWS", x.cast(ALL), 20);
    }

    /** One PERSON who KNOWS two TRACKS; the loss is 4 if they may have both, else 20. */
    private static SwingDesk oneForTwo() {
        SwingDesk x = Due.desk(2, 5);
        x.person(0, 5);
        x.did(0, 0);
        x.did(0, 1);
        return x;
    }

    private static void oneInTwoTracks() {
        SwingDesk x = oneForTwo();
        due.is("16 IN no CUE", x.cast(ALL), 4);
        x.in(0, 3, 0, 0);
        x.in(1, 3, 0, 0);
        due.is("16 IN one CUE", x.cast(ALL), 20);
        due.is("16 the first is had", x.has(0), 0);
        due.is("16 the second is CUT", x.has(1), NONE);
        int[][] steps = {{0, 5, 4}, {0, 6, 20}, {9, 4, 4}, {9, 3, 20}, {9, 0, 20}, {2, 2, 4}, {5, 0, 4}, {6, 0, 20}};
        for (int[] s : steps) {
            SwingDesk y = oneForTwo();
            y.in(0, 28, s[0], 0);
            y.in(1, 29, s[1], 0);
            due.is("16 next CUE, " + s[0] + " to " + s[1], y.cast(ALL), s[2]);
            SwingDesk z = oneForTwo();
            z.in(1, 0, s[0], 0);
            z.in(0, 1, s[1], 0);
            due.is("16 the other way, " + s[0] + " to " + s[1], z.cast(ALL), s[2]);
        }
        SwingDesk far = oneForTwo();
        far.in(0, 0, 0, 0);
        far.in(1, 2, 9, 0);
        due.is("16 two CUES on", far.cast(ALL), 4);
        far.in(0, 29, 0, 0);
        far.in(1, 0, NONE, 0);
        far.in(1, 2, 9, 0);
        due.is("16 the last CUE has no next one", far.cast(ALL), 4);
    }

    private static void outFits() {
        SwingDesk x = Due.desk(1, 5);
        x.person(0, 5);
        x.own(0, 0);
        x.out(0, 0);
        due.is("16 OUT, but the TRACK is IN no CUE", x.cast(ALL), 0);
        x.in(0, 10, 5, 0);
        x.in(0, 3, 5, 0);
        int[] from = {0, 3, 4, 10, 11, 29, 30};
        for (int cue : from) {
            x.out(0, cue);
            due.is("16 OUT from " + cue, x.cast(ALL), cue <= 10 ? 20 : 0);
        }
    }

    private static void feudFits() {
        for (int place = 0; place < 10; place++) {
            SwingDesk x = Due.desk(2, 5);
            Due.people(x, 3, 0, 5);
            x.own(0, 0);
            x.own(1, 1);
            x.in(0, 7, 4, 0);
            x.in(1, 7, place, 0);
            x.feud(1, 0, 1);
            boolean near = place >= 3 && place <= 5;
            due.is("16 FEUD at 4 and " + place, x.cast(ALL), near ? 20 : 0);
            due.is("16 the lesser TRACK is had", x.has(0), 0);
            x.did(2, 1);
            due.is("16 somebody without a FEUD", x.cast(ALL), near ? 2 : 0);
            x.feud(0, 1, 0);
            due.is("16 no FEUD any more", x.cast(ALL), 0);
        }
        SwingDesk x = Due.desk(2, 5);
        Due.people(x, 2, 0, 5);
        x.own(0, 0);
        x.own(1, 1);
        x.feud(0, 1, 1);
        x.in(0, 7, 4, 0);
        x.in(1, 8, 4, 0);
        due.is("16 FEUD in two CUES", x.cast(ALL), 0);
    }

    private static void lossOfCuts() {
        SwingDesk x = Due.desk(2, 5);
        due.is("16 two CUT", x.cast(ALL), 40);
        for (int cue = 0; cue < 30; cue++) {
            x.in(0, cue, 3, 1);
        }
        due.is("16 30 CUES with MUST", x.cast(ALL), 340);
        x.in(0, 5, 3, 0);
        x.in(0, 6, NONE, 1);
        due.is("16 28 of them", x.cast(ALL), 320);
        x.person(0, 5);
        x.did(0, 1);
        due.is("16 LINES of a TRACK that is not CUT", x.cast(ALL), 300);
    }

    private static void lossOfCovers() {
        int[] losses = {2, 2, 1, 1};
        for (int kind = 0; kind < 4; kind++) {
            SwingDesk x = Due.desk(2, 5);
            x.person(kind, 5);
            x.person(0, 9);
            x.own(1, 0);
            x.did(0, 0);
            due.is("16 not the OWNER, KIND " + kind, x.cast(ALL), 20 + losses[kind]);
            x.days(29);
            due.is("16 FRESH still", x.cast(ALL), 20 + losses[kind]);
            x.days(1);
            due.is("16 30 days", x.cast(ALL), 20 + losses[kind] + (kind < 2 ? 3 : 0));
            x.days(30);
            due.is("16 60 days", x.cast(ALL), 20 + losses[kind] + 3);
            x.own(1, NONE);
            due.is("16 no OWNER, not FRESH", x.cast(ALL), 20 + 3);
            x.did(0, 0);
            due.is("16 no OWNER, FRESH", x.cast(ALL), 20);
            x.days(60);
            x.own(0, 0);
            due.is("16 the OWNER need not be FRESH", x.cast(ALL), 20);
        }
    }

    private static void lossOfDoubles() {
        SwingDesk x = Due.desk(4, 5);
        x.person(0, 5);
        for (int track = 0; track < 4; track++) {
            x.did(0, track);
        }
        due.is("16 four TRACKS of one", x.cast(ALL), 12);
        x.person(0, 5);
        x.did(1, 3);
        due.is("16 two PEOPLE", x.cast(ALL), 8);
        due.is("16 the second has the last", x.has(3), 1);
        x.own(0, 2);
        due.is("16 one OWNED", x.cast(ALL), 8);
    }

    private static SwingDesk liftOfTwo() {
        SwingDesk x = Due.desk(2, 5);
        Due.people(x, 3, 2, 5);
        x.own(0, 0);
        x.own(1, 1);
        x.did(2, 1);
        x.in(0, 4, 1, 0);
        x.in(1, 4, 9, 0);
        x.lift(4, 0, 1);
        return x;
    }

    private static void lossOfLifts() {
        SwingDesk x = liftOfTwo();
        due.is("16 both OWN", x.cast(ALL), 0);
        x.out(1, 0);
        due.is("16 one does not", x.cast(ALL), 7);
        x.rehearse(2, 0);
        due.is("16 REHEARSED the other way", x.cast(ALL), 7);
        x.rehearse(0, 2);
        due.is("16 REHEARSED", x.cast(ALL), 1);
        x.in(0, 5, 1, 0);
        x.in(1, 5, 9, 0);
        x.lift(5, 1, 0);
        due.is("16 each LIFT has its first", x.cast(ALL), 1);
        x.days(30);
        x.rehearse(0, 2);
        x.out(1, 0);
        due.is("16 one way is not FRESH", x.cast(ALL), 7);
        x.out(2, 0);
        due.is("16 CUT, two LIFTS", x.cast(ALL), 32);
        x.out(0, 0);
        due.is("16 both CUT, two LIFTS", x.cast(ALL), 52);
    }

    private static void firstOfEqual() {
        SwingDesk x = Due.desk(2, 5);
        Due.people(x, 3, 0, 5);
        for (int person = 2; person >= 0; person--) {
            x.did(person, 0);
            x.did(person, 1);
        }
        due.is("16 equal ones", x.cast(ALL), 0);
        due.is("16 the lesser at TRACK 0", x.has(0), 0);
        due.is("16 the lesser at TRACK 1", x.has(1), 1);
        x.out(0, 0);
        x.in(0, 0, 0, 0);
        x.in(1, 0, 5, 0);
        x.feud(1, 2, 1);
        due.is("16 without the first", x.cast(ALL), 0);
        due.is("16 the next at TRACK 0", x.has(0), 1);
        due.is("16 the next at TRACK 1", x.has(1), 2);
        x.in(1, 0, 1, 0);
        due.is("16 a FEUD: one is CUT", x.cast(ALL), 20);
        due.is("16 CUT is behind all", x.has(0), 1);
        due.is("16 CUT at the second", x.has(1), NONE);
    }

    private static SwingDesk allKnowAll(int tracks, int people) {
        SwingDesk x = Due.desk(tracks, 5);
        Due.people(x, people, 0, 5);
        for (int person = 0; person < people; person++) {
            for (int track = 0; track < tracks; track++) {
                x.did(person, track);
            }
        }
        return x;
    }

    private static void tries() {
        SwingDesk x = allKnowAll(2, 2);
        due.is("16 2 + 3 * 2 TRIES", x.cast(7), SPENT);
        due.is("16 8 TRIES", x.cast(8), 0);
        x.in(0, 0, 0, 0);
        x.in(1, 0, 9, 0);
        due.is("16 2 + 1 + 1 + 2 TRIES", x.cast(5), SPENT);
        due.is("16 6 TRIES", x.cast(6), 0);
        x.in(1, 0, 1, 0);
        x.feud(0, 1, 1);
        due.is("16 2 + 0 + 0 + 2 TRIES", x.cast(3), SPENT);
        due.is("16 4 TRIES", x.cast(4), 20);
        SwingDesk many = allKnowAll(5, 6);
        due.is("16 7 to the fifth less 1", many.cast(16805), SPENT);
        due.is("16 all of them", many.cast(16806), 0);
        due.is("16 8 to the fifth less 1", allKnowAll(5, 7).cast(ALL), SPENT);
        due.is("16 11 to the eighth less 1", allKnowAll(8, 10).cast(ALL), SPENT);
        SwingDesk none = Due.desk(8, 5);
        due.is("16 CUTS are no TRIES", none.cast(1), 160);
    }

    private static void spentKeepsTheCast() {
        SwingDesk x = allKnowAll(2, 3);
        due.is("16 SPENT ahead of any CAST", x.cast(1), SPENT);
        due.is("16 there is none", x.at(0, 0), NO);
        x.cast(ALL);
        x.hurt(0, 10);
        x.out(1, 0);
        due.is("16 SPENT", x.cast(3), SPENT);
        due.is("16 the latest CAST stays", x.has(0), 0);
        due.is("16 all of it", x.has(1), 1);
        due.is("16 its HOLDERS too", x.at(0, 9), 0);
        due.is("16 its HOLDERS from the CUE on", x.at(0, 10), NONE);
    }

    private static void castBad() {
        SwingDesk x = allKnowAll(1, 1);
        int[] bad = {0, -1, 30001, NONE, Due.LEAST, Due.MOST};
        for (int tries : bad) {
            due.is("16 cast(" + tries + ")", x.cast(tries), BAD);
        }
        due.is("16 no CAST by it", x.who(0), NO);
        due.is("16 30000", x.cast(30000), 0);
        due.is("16 1", x.cast(1), 0);
    }

    private static void hasAndAt() {
        SwingDesk x = Due.desk(2, 5);
        Due.people(x, 1, 0, 5);
        x.own(0, 1);
        due.is("17 no CAST", x.has(1), NONE);
        due.is("21 no CAST", x.at(1, 0), NO);
        x.cast(ALL);
        due.is("17 CUT", x.has(0), NONE);
        due.is("17 had", x.has(1), 0);
        due.is("21 CUT", x.at(0, 0), NONE);
        due.is("21 HOLDER, though it is not IN", x.at(1, 0), 0);
        due.is("21 HOLDER to the end", x.at(1, 29), 0);
        x.out(0, 0);
        due.is("17 OUT does not change the CAST", x.has(1), 0);
        due.is("21 nor a HOLDER", x.at(1, 29), 0);
        x.track(5);
        due.is("17 a TRACK that came later", x.has(2), NONE);
        due.is("21 a TRACK that came later", x.at(2, 0), NONE);
        int[] bad = {3, -1, NONE, Due.LEAST, Due.MOST};
        for (int track : bad) {
            due.is("17 has(" + track + ")", x.has(track), BAD);
            due.is("21 at(" + track + ", 0)", x.at(track, 0), BAD);
            due.is("21 at(0, " + (track == 3 ? 30 : track) + ")", x.at(0, track == 3 ? 30 : track), BAD);
        }
        x.days(1);
        due.is("17 no CAST any more", x.has(1), NONE);
        due.is("21 BAD stands ahead of NO", x.at(3, 0), BAD);
    }

    private static void whos() {
        SwingDesk x = Due.desk(3, 5);
        Due.people(x, 10, 0, 5);
        x.own(0, 0);
        x.own(9, 1);
        x.own(3, 2);
        x.in(0, 2, 0, 0);
        x.in(1, 2, 4, 0);
        x.in(2, 3, 8, 0);
        due.is("18 no CAST", x.who(2), NO);
        due.is("18 BAD stands ahead of NO", x.who(30), BAD);
        x.cast(ALL);
        due.is("18 two", x.who(2), 513);
        due.is("18 one", x.who(3), 8);
        due.is("18 none", x.who(4), 0);
        x.in(2, 2, 8, 0);
        due.is("18 IN since", x.who(2), 521);
        x.hurt(9, 2);
        due.is("18 no HOLDER", x.who(2), 9);
        int[] bad = {-1, 30, NONE, Due.LEAST, Due.MOST};
        for (int cue : bad) {
            due.is("18 who(" + cue + ")", x.who(cue), BAD);
        }
    }

    private static void dones() {
        SwingDesk x = liftOfTwo();
        due.is("19 no CAST", x.done(4), NO);
        due.is("19 no LIFT, no CAST", x.done(5), NONE);
        due.is("19 BAD", x.done(30), BAD);
        due.is("19 BAD below 0", x.done(-1), BAD);
        x.cast(ALL);
        due.is("19 done", x.done(4), 1);
        due.is("19 no LIFT", x.done(5), NONE);
        x.hurt(1, 0);
        due.is("19 HOLDERS do not count", x.done(4), 1);
        x.cast(ALL);
        due.is("19 the two do not both OWN", x.done(4), 0);
        x.rehearse(0, 2);
        due.is("19 REHEARSED", x.done(4), 1);
        x.lift(4, 1, 0);
        due.is("19 the other lifts", x.done(4), 0);
        x.out(2, 0);
        x.cast(ALL);
        due.is("19 a TRACK is CUT", x.done(4), 0);
        x.days(1);
        due.is("19 no CAST any more", x.done(4), NO);
    }

    private static void hurts() {
        SwingDesk x = Due.desk(2, 5);
        Due.people(x, 4, 0, 5);
        x.own(0, 0);
        x.own(1, 1);
        x.did(3, 0);
        x.did(2, 0);
        x.in(0, 5, 1, 0);
        x.in(0, 9, 1, 0);
        x.cast(ALL);
        due.is("20 behind the last CUE of the TRACK", x.hurt(0, 10), 0);
        due.is("20 no HOLDER from there on", x.at(0, 10), NONE);
        due.is("20 HOLDER ahead", x.at(0, 9), 0);
        due.is("20 HURT is OUT", x.out(0, 30), 10);
        x.cast(ALL);
        due.is("20 in the last CUE", x.hurt(0, 9), 1);
        due.is("20 the least number takes it", x.at(0, 9), 2);
        due.is("20 to the end", x.at(0, 29), 2);
        due.is("20 not ahead", x.at(0, 8), 0);
        due.is("20 THE CAST stays", x.has(0), 0);
        due.is("20 the other TRACK stays", x.at(1, 29), 1);
        due.is("20 who HOLDS nothing from there on", x.hurt(0, 12), 0);
        due.is("20 is OUT from there on", x.out(0, 9), 12);
        due.is("20 HOLDER still", x.at(0, 12), 2);
        due.is("20 one without a TRACK", x.hurt(3, 0), 0);
        due.is("20 is OUT", x.out(3, 0), 0);
        due.is("20 the next one", x.hurt(2, 0), 0);
        due.is("20 from the first CUE that they HOLD it", x.at(0, 8), 0);
        due.is("20 nobody is left", x.at(0, 9), NONE);
    }

    private static void hurtTakers() {
        SwingDesk x = Due.desk(3, 5);
        x.person(0, 5);
        x.person(0, 5);
        x.person(2, 3);
        x.person(0, 5);
        x.person(0, 5);
        x.own(0, 0);
        x.own(1, 1);
        x.did(1, 0);
        x.did(2, 0);
        x.did(3, 0);
        x.in(0, 6, 4, 0);
        x.in(1, 6, 4, 0);
        x.in(2, 8, 4, 0);
        x.cast(ALL);
        x.feud(1, 3, 1);
        due.is("20 busy, not fitting, then with a FEUD", x.hurt(0, 6), 1);
        due.is("20 FEUDS do not count", x.at(0, 6), 3);
        x.out(0, 30);
        x.cast(ALL);
        x.out(3, 29);
        due.is("20 who is OUT later does not take", x.hurt(0, 6), 0);
        x.out(0, 30);
        x.out(3, 30);
        x.cast(ALL);
        x.in(1, 6, NONE, 0);
        x.in(1, 7, 9, 0);
        due.is("20 HOLDER of a TRACK in other CUES", x.hurt(0, 0), 1);
        due.is("20 PLACES do not count", x.at(0, 6), 1);
        x.out(0, 30);
        x.cast(ALL);
        x.in(0, 2, 0, 0);
        x.in(1, 2, 9, 0);
        due.is("20 CUES ahead do not count", x.hurt(0, 3), 1);
        due.is("20 free from there on", x.at(0, 3), 1);
        x.own(0, NONE);
        x.own(4, 0);
        x.out(0, 30);
        x.did(0, 2);
        x.cast(ALL);
        x.out(1, 0);
        x.out(3, 0);
        due.is("20 HOLDER is the OWNER", x.at(0, 0), 4);
        x.own(4, NONE);
        x.own(3, 0);
        x.out(3, 30);
        x.did(4, 2);
        due.is("20 OWNS it", x.hurt(4, 0), 1);
        due.is("20 the OWNER", x.at(0, 6), 3);
    }

    private static void hurtByNumber() {
        SwingDesk x = Due.desk(2, 5);
        Due.people(x, 3, 0, 5);
        x.did(0, 0);
        x.did(0, 1);
        x.in(0, 3, 0, 0);
        x.in(1, 6, 0, 0);
        due.is("20 one has both", x.cast(ALL), 4);
        x.did(1, 0);
        x.did(1, 1);
        due.is("20 one takes both", x.hurt(0, 0), 2);
        due.is("20 the first", x.at(0, 0), 1);
        due.is("20 the second", x.at(1, 0), 1);
        SwingDesk y = Due.desk(2, 5);
        Due.people(y, 3, 0, 5);
        y.did(0, 0);
        y.did(0, 1);
        y.cast(ALL);
        y.in(0, 3, 0, 0);
        y.in(1, 3, 0, 0);
        y.did(1, 0);
        y.did(1, 1);
        y.did(2, 1);
        due.is("20 the two meet by now", y.hurt(0, 0), 2);
        due.is("20 the lesser TRACK first", y.at(0, 3), 1);
        due.is("20 then the other", y.at(1, 3), 2);
    }

    private static void hurtTwice() {
        SwingDesk x = Due.desk(1, 5);
        Due.people(x, 3, 0, 5);
        x.own(0, 0);
        x.in(0, 20, 0, 0);
        x.cast(ALL);
        x.did(2, 0);
        x.hurt(0, 10);
        due.is("20 taken over", x.at(0, 10), 2);
        x.did(1, 0);
        due.is("20 HURT from an earlier CUE on", x.hurt(0, 4), 1);
        due.is("20 from the first CUE on there is another HOLDER", x.at(0, 4), 1);
        due.is("20 also where it was taken over", x.at(0, 10), 1);
        due.is("20 ahead of it", x.at(0, 3), 0);
        due.is("20 in again, CAST anew", x.out(0, 30), 4);
        x.cast(ALL);
        due.is("21 HOLDERS are those of the new CAST", x.at(0, 10), 0);
        x.out(1, 0);
        x.hurt(0, 10);
        x.out(0, 30);
        due.is("20 the one who took it over is HURT", x.hurt(2, 10), 1);
        due.is("20 the first can take it again", x.at(0, 10), 0);
    }

    private static void hurtRefused() {
        SwingDesk x = Due.desk(1, 5);
        Due.people(x, 1, 0, 5);
        due.is("20 no CAST", x.hurt(0, 0), NO);
        due.is("20 nothing changed", x.count(4), 0);
        int[][] bad = {{1, 0}, {-1, 0}, {0, 30}, {0, -1}, {NONE, 0}, {0, NONE}, {Due.MOST, 0}, {0, Due.LEAST}};
        for (int[] b : bad) {
            due.is("20 BAD ahead of NO", x.hurt(b[0], b[1]), BAD);
        }
        x.cast(ALL);
        for (int[] b : bad) {
            due.is("20 hurt" + java.util.Arrays.toString(b), x.hurt(b[0], b[1]), BAD);
        }
        due.is("20 nobody is OUT", x.count(4), 0);
    }
}
