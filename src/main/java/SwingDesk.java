import java.util.Arrays;

/**
 * Who goes on tonight: a show as tracks through cues, the people who can play them, and the cast of
 * least loss when some are out. What each call answers stands in DOC.md, promise by promise.
 */
public final class SwingDesk {
    public static final int BAD = -1000000001, NO = -1000000002, FULL = -1000000003, SPENT = -1000000004,
            NONE = -1000000005, NOTHING = -1000000011, INDEX = -1000000013, SIZE = -1000000014;

    private static final int CUES = 30;
    private static final int MOST_PLACE = 9;
    private static final int MOST_TRACKS = 8;
    private static final int MOST_PEOPLE = 10;
    private static final int MOST_SIZE = 9;
    private static final int MOST_DAYS = 400;
    private static final int MOST_DAYS_AT_ONCE = 60;
    private static final int MOST_TRIES = 30000;
    private static final int SHEETS = 2;

    private static final int PLAYER = 0;
    private static final int SWING = 2;
    private static final int CAPTAIN = 3;

    private final Show show;
    private final Company company;
    private final Night night;
    private final CastSearch search;
    private final PutIns putIns;
    private final Sheet[] sheets;

    public SwingDesk() {
        show = new Show();
        company = new Company();
        night = new Night(show, company);
        search = new CastSearch(show, company);
        putIns = new PutIns(show, company);
        sheets = new Sheet[SHEETS];
        for (int s = 0; s < SHEETS; s++) {
            sheets[s] = new Sheet();
        }
    }

    // ---- the show

    public int track(int dress) {
        return isWithin(dress, 1, MOST_SIZE) ? show.addTrack(dress) : BAD;
    }

    public int in(int track, int cue, int place, int must) {
        boolean isPlace = place == NONE || isWithin(place, 0, MOST_PLACE);
        if (!show.isTrack(track) || !isCue(cue) || !isPlace || !isFlag(must)) {
            return BAD;
        }
        int before = show.placeAt(track, cue);
        show.put(track, cue, place, must);
        return before;
    }

    public int lift(int cue, int track, int other) {
        if (!isCue(cue)) {
            return BAD;
        }
        int before = show.hasLift(cue) ? 1 : 0;
        if (track == NONE) {
            show.setLift(cue, NONE, NONE);
            return before;
        }
        if (!show.isTrack(track) || !show.isTrack(other) || track == other) {
            return BAD;
        }
        if (!show.isIn(track, cue) || !show.isIn(other, cue)) {
            return NO;
        }
        show.setLift(cue, track, other);
        return before;
    }

    public int lay(int track, int cue, int sheet) {
        Sheet row = sheetOf(sheet);
        if (!show.isTrack(track) || !isCue(cue) || row == null) {
            return BAD;
        }
        if (row.isMissing()) {
            return NOTHING;
        }
        if (row.length() > CUES - cue) {
            return INDEX;
        }
        for (int i = 0; i < row.length(); i++) {
            int place = row.valueAt(i);
            show.put(track, cue + i, isWithin(place, 0, MOST_PLACE) ? place : NONE, 0);
        }
        return row.length();
    }

    public int told(int track, int cue, int what) {
        if (!show.isTrack(track) || !isCue(cue)) {
            return BAD;
        }
        switch (what) {
            case 0:
                return show.placeAt(track, cue);
            case 1:
                return show.mustAt(track, cue);
            case 2:
                return show.liftPartner(track, cue);
            default:
                return BAD;
        }
    }

    // ---- people

    public int person(int kind, int size) {
        return isKind(kind) && isWithin(size, 1, MOST_SIZE) ? company.addPerson(kind, size) : BAD;
    }

    public int isOf(int person, int kind) {
        if (!company.isPerson(person) || !isKind(kind)) {
            return BAD;
        }
        return company.isOfKind(person, kind) ? 1 : 0;
    }

    public int own(int person, int track) {
        if (!company.isPerson(person) || (track != NONE && !show.isTrack(track))) {
            return BAD;
        }
        int owner = company.ownerOf(track);
        if (owner != NONE && owner != person) {
            return NO;
        }
        int before = company.ownedBy(person);
        company.setOwned(person, track);
        return before;
    }

    public int did(int person, int track) {
        if (!company.isPerson(person) || !show.isTrack(track)) {
            return BAD;
        }
        int since = company.daysSinceDid(person, track);
        company.setDidToday(person, track);
        return since;
    }

    public int fresh(int person, int track) {
        if (!company.isPerson(person) || !show.isTrack(track)) {
            return BAD;
        }
        if (!company.knows(person, track)) {
            return NO;
        }
        return company.isFresh(person, track) ? 1 : 0;
    }

    public int rehearse(int person, int other) {
        if (!company.areTwo(person, other)) {
            return BAD;
        }
        int since = company.daysSinceRehearsed(person, other);
        company.setRehearsedToday(person, other);
        return since;
    }

    public int feud(int person, int other, int on) {
        if (!company.areTwo(person, other) || !isFlag(on)) {
            return BAD;
        }
        int before = company.areFoes(person, other) ? 1 : 0;
        company.setFoes(person, other, on == 1);
        return before;
    }

    public int days(int n) {
        if (!isWithin(n, 1, MOST_DAYS_AT_ONCE) || company.today() + n > MOST_DAYS) {
            return BAD;
        }
        company.passDays(n);
        night.clear();
        return company.today();
    }

    // ---- tonight

    public int out(int person, int cue) {
        if (!company.isPerson(person) || !isWithin(cue, 0, CUES)) {
            return BAD;
        }
        int before = company.outFrom(person);
        company.setOutFrom(person, cue);
        return before;
    }

    public int cast(int tries) {
        if (!isWithin(tries, 1, MOST_TRIES)) {
            return BAD;
        }
        int loss = search.leastLoss(tries);
        if (loss != SPENT) {
            night.begin(search);
        }
        return loss;
    }

    public int has(int track) {
        return show.isTrack(track) ? night.castAt(track) : BAD;
    }

    public int who(int cue) {
        if (!isCue(cue)) {
            return BAD;
        }
        return night.hasCast() ? night.holdersIn(cue) : NO;
    }

    public int done(int cue) {
        if (!isCue(cue)) {
            return BAD;
        }
        if (!show.hasLift(cue)) {
            return NONE;
        }
        if (!night.hasCast()) {
            return NO;
        }
        return night.isLiftDone(cue) ? 1 : 0;
    }

    public int hurt(int person, int cue) {
        if (!company.isPerson(person) || !isCue(cue)) {
            return BAD;
        }
        if (!night.hasCast()) {
            return NO;
        }
        company.setOutFrom(person, cue);
        return night.replace(person, cue);
    }

    public int at(int track, int cue) {
        if (!show.isTrack(track) || !isCue(cue)) {
            return BAD;
        }
        return night.hasCast() ? night.holderAt(track, cue) : NO;
    }

    // ---- rehearsals

    public int plan() {
        return putIns.find() ? putIns.hours() : NO;
    }

    public int putIn(int person) {
        if (!company.isPerson(person)) {
            return BAD;
        }
        return putIns.find() ? putIns.trackOf(person) : NO;
    }

    // ---- sheets

    public int sheet(int s, int n) {
        Sheet row = sheetOf(s);
        if (row == null || n > CUES) {
            return BAD;
        }
        if (n < 0) {
            return SIZE;
        }
        row.begin(n);
        return n;
    }

    public int mark(int s, int place, int v) {
        Sheet row = sheetOf(s);
        if (row == null) {
            return BAD;
        }
        if (row.isMissing()) {
            return NOTHING;
        }
        if (!row.hasRun(place, 1)) {
            return INDEX;
        }
        int before = row.valueAt(place);
        row.setValue(place, (byte) v);
        return before;
    }

    public int copy(int from, int place, int to, int at, int many) {
        Sheet source = sheetOf(from);
        Sheet target = sheetOf(to);
        if (source == null || target == null) {
            return BAD;
        }
        if (source.isMissing() || target.isMissing()) {
            return NOTHING;
        }
        if (!source.hasRun(place, many) || !target.hasRun(at, many)) {
            return INDEX;
        }
        target.take(source, place, at, many);
        return many;
    }

    public int count(int what) {
        switch (what) {
            case 0:
                return show.tracks();
            case 1:
                return company.people();
            case 2:
                return show.countLifts();
            case 3:
                return company.today();
            case 4:
                return company.countOut();
            case 5:
                return company.countOwned();
            case 6:
                return company.countFeuds();
            case 7:
                return company.countFreshPairs();
            default:
                return BAD;
        }
    }

    private Sheet sheetOf(int s) {
        return isWithin(s, 0, SHEETS - 1) ? sheets[s] : null;
    }

    private static boolean isWithin(int value, int least, int most) {
        return value >= least && value <= most;
    }

    private static boolean isCue(int cue) {
        return cue >= 0 && cue < CUES;
    }

    private static boolean isFlag(int value) {
        return isWithin(value, 0, 1);
    }

    private static boolean isKind(int kind) {
        return isWithin(kind, PLAYER, CAPTAIN);
    }

    /** The tracks, their places and lines in each cue, and the lifts. */
    private static final class Show {
        private static final int MOST_STEP = 5;
        private static final int CLEAR_OF_FOES = 2;

        private int tracks;
        private final int[] dresses;
        private final int[] places;
        private final int[] musts;
        private final int[] lifters;
        private final int[] lifted;

        Show() {
            tracks = 0;
            dresses = new int[MOST_TRACKS];
            places = new int[MOST_TRACKS * CUES];
            musts = new int[MOST_TRACKS * CUES];
            lifters = new int[CUES];
            lifted = new int[CUES];
            Arrays.fill(places, NONE);
            Arrays.fill(lifters, NONE);
            Arrays.fill(lifted, NONE);
        }

        int addTrack(int dress) {
            if (tracks >= MOST_TRACKS) {
                return FULL;
            }
            dresses[tracks] = dress;
            tracks++;
            return tracks - 1;
        }

        int tracks() {
            return tracks;
        }

        boolean isTrack(int track) {
            return track >= 0 && track < tracks;
        }

        int dressOf(int track) {
            return isTrack(track) ? dresses[track] : NONE;
        }

        int placeAt(int track, int cue) {
            return isTrack(track) && isCue(cue) ? places[track * CUES + cue] : NONE;
        }

        boolean isIn(int track, int cue) {
            return isTrack(track) && isCue(cue) && places[track * CUES + cue] != NONE;
        }

        int mustAt(int track, int cue) {
            return isTrack(track) && isCue(cue) ? musts[track * CUES + cue] : 0;
        }

        void put(int track, int cue, int place, int must) {
            if (!isTrack(track) || !isCue(cue)) {
                return;
            }
            // A lift is told for the places as they were, so it ends even if the place stays the same.
            if (lifters[cue] == track || lifted[cue] == track) {
                setLift(cue, NONE, NONE);
            }
            places[track * CUES + cue] = place;
            musts[track * CUES + cue] = place == NONE ? 0 : must;
        }

        void setLift(int cue, int track, int other) {
            if (isCue(cue)) {
                lifters[cue] = track;
                lifted[cue] = other;
            }
        }

        int lifterIn(int cue) {
            return isCue(cue) ? lifters[cue] : NONE;
        }

        int liftedIn(int cue) {
            return isCue(cue) ? lifted[cue] : NONE;
        }

        boolean hasLift(int cue) {
            return lifterIn(cue) != NONE;
        }

        int liftPartner(int track, int cue) {
            if (lifterIn(cue) == track) {
                return liftedIn(cue);
            }
            return liftedIn(cue) == track ? lifterIn(cue) : NONE;
        }

        int countLifts() {
            int lifts = 0;
            for (int cue = 0; cue < CUES; cue++) {
                lifts += hasLift(cue) ? 1 : 0;
            }
            return lifts;
        }

        int countCues(int track) {
            int cues = 0;
            for (int cue = 0; cue < CUES; cue++) {
                cues += isIn(track, cue) ? 1 : 0;
            }
            return cues;
        }

        int countMusts(int track) {
            int cues = 0;
            for (int cue = 0; cue < CUES; cue++) {
                cues += mustAt(track, cue);
            }
            return cues;
        }

        /** The last cue that a track is in, or -1, which is ahead of every cue from which one may be out. */
        int lastCue(int track) {
            int last = -1;
            for (int cue = 0; cue < CUES; cue++) {
                last = isIn(track, cue) ? cue : last;
            }
            return last;
        }

        boolean canBeOnePersons(int track, int other) {
            for (int cue = 0; cue < CUES; cue++) {
                if (isIn(track, cue) && isIn(other, cue)) {
                    return false;
                }
                if (isFarStep(track, other, cue) || isFarStep(other, track, cue)) {
                    return false;
                }
            }
            return true;
        }

        private boolean isFarStep(int track, int next, int cue) {
            return isIn(track, cue) && isIn(next, cue + 1)
                    && Math.abs(placeAt(track, cue) - placeAt(next, cue + 1)) > MOST_STEP;
        }

        boolean canBeFoes(int track, int other) {
            for (int cue = 0; cue < CUES; cue++) {
                if (isIn(track, cue) && isIn(other, cue)
                        && Math.abs(placeAt(track, cue) - placeAt(other, cue)) < CLEAR_OF_FOES) {
                    return false;
                }
            }
            return true;
        }
    }

    /** The people: what they are, own and know, with whom they rehearsed or feud, and who is out. */
    private static final class Company {
        private static final int NEVER = -1;
        private static final int FRESH_DAYS = 30;
        private static final int FRESH_DAYS_OF_SWINGS = 60;

        private int people;
        private int today;
        private final int[] kinds;
        private final int[] sizes;
        private final int[] owned;
        private final int[] didOn;
        private final int[] rehearsedOn;
        private final int[] foes;
        private final int[] outFrom;

        Company() {
            people = 0;
            today = 0;
            kinds = new int[MOST_PEOPLE];
            sizes = new int[MOST_PEOPLE];
            owned = new int[MOST_PEOPLE];
            didOn = new int[MOST_PEOPLE * MOST_TRACKS];
            rehearsedOn = new int[MOST_PEOPLE * MOST_PEOPLE];
            foes = new int[MOST_PEOPLE];
            outFrom = new int[MOST_PEOPLE];
            Arrays.fill(owned, NONE);
            Arrays.fill(didOn, NEVER);
            Arrays.fill(rehearsedOn, NEVER);
            Arrays.fill(outFrom, CUES);
        }

        int addPerson(int kind, int size) {
            if (people >= MOST_PEOPLE) {
                return FULL;
            }
            kinds[people] = kind;
            sizes[people] = size;
            people++;
            return people - 1;
        }

        int people() {
            return people;
        }

        boolean isPerson(int person) {
            return person >= 0 && person < people;
        }

        boolean areTwo(int person, int other) {
            return isPerson(person) && isPerson(other) && person != other;
        }

        boolean isOfKind(int person, int kind) {
            if (!isPerson(person)) {
                return false;
            }
            return kind == PLAYER || kinds[person] == kind || (kind == SWING && kinds[person] == CAPTAIN);
        }

        boolean fitsDress(int person, int dress) {
            return isPerson(person) && Math.abs(sizes[person] - dress) <= 1;
        }

        int ownedBy(int person) {
            return isPerson(person) ? owned[person] : NONE;
        }

        boolean owns(int person, int track) {
            return isPerson(person) && track != NONE && owned[person] == track;
        }

        int ownerOf(int track) {
            for (int person = 0; person < people; person++) {
                if (owns(person, track)) {
                    return person;
                }
            }
            return NONE;
        }

        void setOwned(int person, int track) {
            if (isPerson(person)) {
                owned[person] = track;
            }
        }

        int today() {
            return today;
        }

        void passDays(int n) {
            today += n;
            Arrays.fill(outFrom, CUES);
        }

        private int sinceDay(int day) {
            return day == NEVER ? NONE : today - day;
        }

        int daysSinceDid(int person, int track) {
            boolean isKept = isPerson(person) && isWithin(track, 0, MOST_TRACKS - 1);
            return isKept ? sinceDay(didOn[person * MOST_TRACKS + track]) : NONE;
        }

        void setDidToday(int person, int track) {
            if (isPerson(person) && isWithin(track, 0, MOST_TRACKS - 1)) {
                didOn[person * MOST_TRACKS + track] = today;
            }
        }

        boolean knows(int person, int track) {
            return daysSinceDid(person, track) != NONE;
        }

        boolean isFresh(int person, int track) {
            int since = daysSinceDid(person, track);
            return since != NONE && since < (isOfKind(person, SWING) ? FRESH_DAYS_OF_SWINGS : FRESH_DAYS);
        }

        boolean canPlay(int person, int track, int dress) {
            return (owns(person, track) || knows(person, track)) && fitsDress(person, dress);
        }

        int daysSinceRehearsed(int person, int other) {
            boolean isKept = isPerson(person) && isPerson(other);
            return isKept ? sinceDay(rehearsedOn[person * MOST_PEOPLE + other]) : NONE;
        }

        void setRehearsedToday(int person, int other) {
            if (areTwo(person, other)) {
                rehearsedOn[person * MOST_PEOPLE + other] = today;
            }
        }

        boolean isFreshPair(int person, int other) {
            if (!isPerson(person) || !isPerson(other)) {
                return false;
            }
            int day = rehearsedOn[person * MOST_PEOPLE + other];
            return day != NEVER && today - day < FRESH_DAYS;
        }

        /** Whether a lift of one track by another is done if these two have them (NONE: the track is cut). */
        boolean doLift(int lifter, int track, int lifted, int other) {
            return (owns(lifter, track) && owns(lifted, other)) || isFreshPair(lifter, lifted);
        }

        int foesOf(int person) {
            return isPerson(person) ? foes[person] : 0;
        }

        boolean areFoes(int person, int other) {
            return isPerson(other) && (foesOf(person) >> other & 1) == 1;
        }

        void setFoes(int person, int other, boolean on) {
            if (areTwo(person, other)) {
                foes[person] = on ? foes[person] | 1 << other : foes[person] & ~(1 << other);
                foes[other] = on ? foes[other] | 1 << person : foes[other] & ~(1 << person);
            }
        }

        /** The cue from which a person is out; one behind the last cue stands for not at all. */
        int outFrom(int person) {
            return isPerson(person) ? outFrom[person] : CUES;
        }

        void setOutFrom(int person, int cue) {
            if (isPerson(person)) {
                outFrom[person] = cue;
            }
        }

        boolean isOut(int person) {
            return outFrom(person) < CUES;
        }

        int countOut() {
            int out = 0;
            for (int person = 0; person < people; person++) {
                out += isOut(person) ? 1 : 0;
            }
            return out;
        }

        int countOwned() {
            int tracks = 0;
            for (int person = 0; person < people; person++) {
                tracks += ownedBy(person) != NONE ? 1 : 0;
            }
            return tracks;
        }

        int countFeuds() {
            int both = 0;
            for (int person = 0; person < people; person++) {
                both += Integer.bitCount(foesOf(person));
            }
            return both / 2;
        }

        int countFreshPairs() {
            int pairs = 0;
            for (int person = 0; person < people; person++) {
                for (int other = 0; other < people; other++) {
                    pairs += isFreshPair(person, other) ? 1 : 0;
                }
            }
            return pairs;
        }
    }

    /** The cast of tonight, and who holds each track at each cue after people were hurt. */
    private static final class Night {
        private final Show show;
        private final Company company;
        private boolean hasCast;
        private final int[] cast;
        private final int[] holders;

        Night(Show show, Company company) {
            this.show = show;
            this.company = company;
            hasCast = false;
            cast = new int[MOST_TRACKS];
            holders = new int[MOST_TRACKS * CUES];
            Arrays.fill(cast, NONE);
            Arrays.fill(holders, NONE);
        }

        void clear() {
            hasCast = false;
            Arrays.fill(cast, NONE);
            Arrays.fill(holders, NONE);
        }

        void begin(CastSearch found) {
            clear();
            hasCast = true;
            for (int track = 0; track < show.tracks(); track++) {
                int person = found.bestAt(track);
                cast[track] = person;
                holdFrom(track, 0, person);
            }
        }

        boolean hasCast() {
            return hasCast;
        }

        int castAt(int track) {
            return show.isTrack(track) ? cast[track] : NONE;
        }

        int holderAt(int track, int cue) {
            return show.isTrack(track) && isCue(cue) ? holders[track * CUES + cue] : NONE;
        }

        private void holdFrom(int track, int first, int person) {
            for (int cue = first; cue < CUES; cue++) {
                if (show.isTrack(track) && isCue(cue)) {
                    holders[track * CUES + cue] = person;
                }
            }
        }

        int holdersIn(int cue) {
            int bits = 0;
            for (int track = 0; track < show.tracks(); track++) {
                int holder = holderAt(track, cue);
                if (show.isIn(track, cue) && holder != NONE) {
                    bits |= 1 << holder;
                }
            }
            return bits;
        }

        boolean isLiftDone(int cue) {
            int track = show.lifterIn(cue);
            int other = show.liftedIn(cue);
            return company.doLift(castAt(track), track, castAt(other), other);
        }

        /** How many tracks of a person who is out from a cue on are taken over. */
        int replace(int person, int from) {
            int taken = 0;
            for (int track = 0; track < show.tracks(); track++) {
                int first = firstHeld(track, person, from);
                if (first != NONE) {
                    taken += handOn(track, first) ? 1 : 0;
                }
            }
            return taken;
        }

        private int firstHeld(int track, int person, int from) {
            for (int cue = from; cue < CUES; cue++) {
                if (holderAt(track, cue) == person) {
                    return cue;
                }
            }
            return NONE;
        }

        private boolean handOn(int track, int first) {
            // Emptied ahead of the search, so that nobody is kept from a track by holding its later cues.
            holdFrom(track, first, NONE);
            if (show.lastCue(track) < first) {
                return false;
            }
            int busy = busyFrom(track, first);
            for (int person = 0; person < company.people(); person++) {
                boolean isFree = !company.isOut(person) && (busy >> person & 1) == 0;
                if (isFree && company.canPlay(person, track, show.dressOf(track))) {
                    holdFrom(track, first, person);
                    return true;
                }
            }
            return false;
        }

        /** The people, as bits, who hold some track in a cue that this track is in, from a cue on. */
        private int busyFrom(int track, int first) {
            int bits = 0;
            for (int cue = first; cue < CUES; cue++) {
                bits |= show.isIn(track, cue) ? holdersIn(cue) : 0;
            }
            return bits;
        }
    }

    /** Seeks the cast of least loss. Its rows are made once, as a search puts thousands of people. */
    private static final class CastSearch {
        private static final int CUT_LOSS = 20;
        private static final int MUST_LOSS = 10;
        private static final int COVER_LOSS = 2;
        private static final int SWING_LOSS = 1;
        private static final int STALE_LOSS = 3;
        private static final int DOUBLE_LOSS = 4;
        private static final int LIFT_LOSS = 6;
        private static final int ABOVE_ALL_LOSSES = 1000000;

        private final Show show;
        private final Company company;
        private final int[] able;
        private final int[] oneApart;
        private final int[] foesApart;
        private final int[] cutLosses;
        private final int[] coverLosses;
        private final int[] lifts;
        private final int[] put;
        private final int[] held;
        private final int[] best;
        private int bestLoss;
        private int triesLeft;
        private boolean isSpent;

        CastSearch(Show show, Company company) {
            this.show = show;
            this.company = company;
            able = new int[MOST_TRACKS];
            oneApart = new int[MOST_TRACKS];
            foesApart = new int[MOST_TRACKS];
            cutLosses = new int[MOST_TRACKS];
            coverLosses = new int[MOST_TRACKS * MOST_PEOPLE];
            lifts = new int[MOST_TRACKS * MOST_TRACKS];
            put = new int[MOST_TRACKS];
            held = new int[MOST_PEOPLE];
            best = new int[MOST_TRACKS];
        }

        int leastLoss(int tries) {
            for (int track = 0; track < show.tracks(); track++) {
                readPeople(track);
                readEarlierTracks(track);
                cutLosses[track] = CUT_LOSS + MUST_LOSS * show.countMusts(track);
            }
            readLifts();
            Arrays.fill(held, 0);
            bestLoss = ABOVE_ALL_LOSSES;
            triesLeft = tries;
            isSpent = false;
            seek(0, 0);
            return isSpent ? SPENT : bestLoss;
        }

        int bestAt(int track) {
            return show.isTrack(track) ? best[track] : NONE;
        }

        private void readPeople(int track) {
            int bits = 0;
            int last = show.lastCue(track);
            int owner = company.ownerOf(track);
            for (int person = 0; person < company.people(); person++) {
                boolean isThere = last < company.outFrom(person);
                if (isThere && company.canPlay(person, track, show.dressOf(track))) {
                    bits |= 1 << person;
                }
                coverLosses[track * MOST_PEOPLE + person] = coverLoss(person, track, owner);
            }
            able[track] = bits;
        }

        private int coverLoss(int person, int track, int owner) {
            if (owner == person) {
                return 0;
            }
            int stale = company.isFresh(person, track) ? 0 : STALE_LOSS;
            if (owner == NONE) {
                return stale;
            }
            return stale + (company.isOfKind(person, SWING) ? SWING_LOSS : COVER_LOSS);
        }

        private void readEarlierTracks(int track) {
            int one = 0;
            int foes = 0;
            for (int other = 0; other < track; other++) {
                one |= show.canBeOnePersons(track, other) ? 0 : 1 << other;
                foes |= show.canBeFoes(track, other) ? 0 : 1 << other;
            }
            oneApart[track] = one;
            foesApart[track] = foes;
        }

        private void readLifts() {
            Arrays.fill(lifts, 0);
            for (int cue = 0; cue < CUES; cue++) {
                int track = show.lifterIn(cue);
                int other = show.liftedIn(cue);
                if (show.isTrack(track) && show.isTrack(other)) {
                    lifts[track * MOST_TRACKS + other]++;
                }
            }
        }

        // Every way is gone to its end, whatever its loss: the tries of all ways decide whether it is SPENT.
        private void seek(int track, int loss) {
            if (!show.isTrack(track)) {
                keepIfLess(loss);
                return;
            }
            int free = able[track] & ~barred(track);
            for (int person = 0; person < company.people(); person++) {
                if ((free >> person & 1) == 1) {
                    tryPerson(track, person, loss);
                }
                if (isSpent) {
                    return;
                }
            }
            put[track] = NONE;
            seek(track + 1, loss + cutLosses[track] + liftLoss(track));
        }

        private void tryPerson(int track, int person, int loss) {
            if (triesLeft <= 0) {
                isSpent = true;
                return;
            }
            triesLeft--;
            put[track] = person;
            int twice = held[person] > 0 ? DOUBLE_LOSS : 0;
            held[person]++;
            seek(track + 1, loss + coverLosses[track * MOST_PEOPLE + person] + twice + liftLoss(track));
            held[person]--;
        }

        private void keepIfLess(int loss) {
            // Ways come in the order that the document prefers, so an equal one never takes the place.
            if (loss < bestLoss) {
                bestLoss = loss;
                System.arraycopy(put, 0, best, 0, MOST_TRACKS);
            }
        }

        /** The people, as bits, whom those put so far keep from a track. */
        private int barred(int track) {
            int bits = 0;
            for (int other = 0; other < track; other++) {
                int person = put[other];
                if (person != NONE && (oneApart[track] >> other & 1) == 1) {
                    bits |= 1 << person;
                }
                if (person != NONE && (foesApart[track] >> other & 1) == 1) {
                    bits |= company.foesOf(person);
                }
            }
            return bits;
        }

        /** The loss by lifts of a track with the ones put ahead of it: each lift is met once so. */
        private int liftLoss(int track) {
            int loss = 0;
            for (int other = 0; other < track; other++) {
                int lifting = lifts[track * MOST_TRACKS + other];
                int lifted = lifts[other * MOST_TRACKS + track];
                if (lifting > 0 && !company.doLift(put[track], track, put[other], other)) {
                    loss += lifting * LIFT_LOSS;
                }
                if (lifted > 0 && !company.doLift(put[other], other, put[track], track)) {
                    loss += lifted * LIFT_LOSS;
                }
            }
            return loss;
        }
    }

    /**
     * Seeks the plan of put-ins. A state tells how many put-ins each track has by now; the row keeps the
     * least worth of each state, which is the hours and behind them the tracks of all people as digits,
     * so that one comparison settles the hours and the order of equal plans.
     */
    private static final class PutIns {
        private static final int ENOUGH_FRESH = 2;
        private static final int CUES_AN_HOUR = 4;
        // Ten put-ins at most for eight tracks that need two at most: 3 * 3 and six times 2 is the largest.
        private static final int MOST_STATES = 576;
        private static final int DIGITS = 9;
        private static final int NO_TRACK = 8;
        private static final long HOUR = 3486784401L;
        private static final long NO_WAY = 1000000 * HOUR;

        private final Show show;
        private final Company company;
        private final int[] needs;
        private final int[] steps;
        private final int[] hours;
        private final long[] worths;
        private int states;

        PutIns(Show show, Company company) {
            this.show = show;
            this.company = company;
            needs = new int[MOST_TRACKS];
            steps = new int[MOST_TRACKS];
            hours = new int[MOST_TRACKS];
            worths = new long[MOST_STATES];
            states = 0;
        }

        boolean find() {
            if (!readNeeds()) {
                return false;
            }
            Arrays.fill(worths, NO_WAY);
            worths[0] = 0;
            long digit = HOUR / DIGITS;
            for (int person = 0; person < company.people(); person++) {
                addPerson(person, digit);
                digit /= DIGITS;
            }
            return leastWorth() != NO_WAY;
        }

        int hours() {
            return (int) (leastWorth() / HOUR);
        }

        int trackOf(int person) {
            long digits = leastWorth() % HOUR;
            for (int after = person + 1; after < MOST_PEOPLE; after++) {
                digits /= DIGITS;
            }
            int track = (int) (digits % DIGITS);
            return track == NO_TRACK ? NONE : track;
        }

        private long leastWorth() {
            return isWithin(states, 1, MOST_STATES) ? worths[states - 1] : NO_WAY;
        }

        /** Whether there are as many people as put-ins are needed; only then the states are few. */
        private boolean readNeeds() {
            int all = 0;
            states = 1;
            for (int track = 0; track < show.tracks(); track++) {
                needs[track] = Math.max(0, ENOUGH_FRESH - countFresh(track));
                hours[track] = show.countCues(track) / CUES_AN_HOUR + 1;
                steps[track] = states;
                states *= needs[track] + 1;
                all += needs[track];
            }
            return all <= company.people() && states <= MOST_STATES;
        }

        private int countFresh(int track) {
            int fresh = 0;
            for (int person = 0; person < company.people(); person++) {
                fresh += company.isFresh(person, track) ? 1 : 0;
            }
            return fresh;
        }

        private void addPerson(int person, long digit) {
            int stale = staleTracks(person);
            // Downwards, as a state is made from lesser ones that must not have this person yet.
            for (int state = states - 1; state >= 0; state--) {
                worths[state] = leastWith(stale, digit, state);
            }
        }

        private int staleTracks(int person) {
            int bits = 0;
            for (int track = 0; track < show.tracks(); track++) {
                boolean isStale = company.knows(person, track) && !company.isFresh(person, track);
                bits |= isStale ? 1 << track : 0;
            }
            return bits;
        }

        private long leastWith(int stale, long digit, int state) {
            long least = plus(worths[state], NO_TRACK * digit);
            for (int track = 0; track < show.tracks(); track++) {
                if ((stale >> track & 1) == 1 && hasPutIn(state, track)) {
                    long before = worths[state - steps[track]];
                    least = Math.min(least, plus(before, hours[track] * HOUR + track * digit));
                }
            }
            return least;
        }

        private static long plus(long worth, long more) {
            return worth == NO_WAY ? NO_WAY : worth + more;
        }

        private boolean hasPutIn(int state, int track) {
            int step = steps[track];
            int base = needs[track] + 1;
            return step > 0 && base > 0 && step <= state && state / step % base > 0;
        }
    }

    /** A row of bytes for places, kept at its greatest length so that a new one makes no object. */
    private static final class Sheet {
        private static final int MISSING = -1;

        private int length;
        private final byte[] row;

        Sheet() {
            length = MISSING;
            row = new byte[CUES];
        }

        boolean isMissing() {
            return length == MISSING;
        }

        int length() {
            return length;
        }

        void begin(int n) {
            if (isWithin(n, 0, CUES)) {
                length = n;
                Arrays.fill(row, (byte) 0);
            }
        }

        boolean hasRun(int place, int many) {
            return isWithin(place, 0, length) && isWithin(many, 0, length - place);
        }

        int valueAt(int place) {
            return hasRun(place, 1) ? row[place] : 0;
        }

        void setValue(int place, byte v) {
            if (hasRun(place, 1)) {
                row[place] = v;
            }
        }

        void take(Sheet source, int place, int at, int many) {
            if (source.hasRun(place, many) && hasRun(at, many)) {
                System.arraycopy(source.row, place, row, at, many);
            }
        }
    }
}
