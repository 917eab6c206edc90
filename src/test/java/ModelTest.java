import java.util.Random;

/** Long runs of calls, drawn from told seeds, on SwingDesk and on PlainDesk: each answer must be the same. */
public final class ModelTest {
    private static final int RUNS = 250;
    private static final int FULL_NIGHTS = 1500;
    private static final int STALE_COMPANIES = 1500;
    private static final int HURT_NIGHTS = 600;
    private static final int CALLS = 512;
    private static final long MOST_WAYS_OF_PLANS = 20000;
    private static final int NONE = Due.NONE;
    private static final int[] ODD = {-1, NONE, Integer.MIN_VALUE, Integer.MAX_VALUE, 30, 31, 10, 8, 2, 100};

    private final Due due;
    private final Random random;
    private final int run;
    private final int cues;
    private final int odd;
    private final int dress;
    private final SwingDesk desk = new SwingDesk();
    private final PlainDesk plain = new PlainDesk();

    private ModelTest(Due due, int run) {
        this.due = due;
        this.run = run;
        random = new Random(run);
        cues = run % 3 == 0 ? 30 : run % 3 == 1 ? 12 : 5;
        odd = run % 5 == 0 ? 6 : 60;
        dress = 1 + random.nextInt(9);
    }

    public static void main(String[] args) {
        Due due = new Due();
        for (int run = 0; run < RUNS; run++) {
            new ModelTest(due, run).go();
        }
        for (int run = RUNS; run < RUNS + FULL_NIGHTS; run++) {
            new ModelTest(due, run).goThroughNight();
        }
        for (int run = RUNS + FULL_NIGHTS; run < RUNS + FULL_NIGHTS + STALE_COMPANIES; run++) {
            new ModelTest(due, run).planForStale();
        }
        int behind = RUNS + FULL_NIGHTS + STALE_COMPANIES;
        for (int run = behind; run < behind + HURT_NIGHTS; run++) {
            new ModelTest(due, run).hurtOften();
        }
        due.end();
    }

    private void go() {
        int tracks = random.nextInt(9);
        int people = random.nextInt(11);
        for (int i = 0; i < tracks; i++) {
            call(0);
        }
        for (int i = 0; i < people; i++) {
            call(1);
        }
        for (int i = tracks + people; i < CALLS; i++) {
            call(draw());
        }
    }

    /** A show that is owned nearly whole, so that what is lost by the few who are out decides. */
    private void goThroughNight() {
        int tracks = 2 + random.nextInt(6);
        int people = tracks + random.nextInt(10 - tracks) / 2;
        makeCompany(tracks, people, 5 + random.nextInt(30));
        for (int track = 0; track < tracks; track++) {
            same("own", desk.own(track, track), plain.own(track, track), track, track);
        }
        for (int i = 0; i < 6; i++) {
            callShow(3);
            callPeople(10);
            callPeople(11);
            callTonight(15);
        }
        int days = 1 + random.nextInt(40);
        same("days", desk.days(days), plain.days(days), days);
        for (int i = 0; i < 6; i++) {
            callPeople(8);
            callTonight(15);
            same("cast", desk.cast(6000), plain.cast(6000), 6000);
            sameNight();
            callTonight(19);
            callTonight(19);
            callPeople(10);
        }
    }

    /** TRACKS of few CUES, so that one PERSON has several and those who take over can hold several, too. */
    private void hurtOften() {
        int tracks = 3 + random.nextInt(6);
        int people = 2 + random.nextInt(4);
        makeSparse(tracks, people);
        for (int i = random.nextInt(4); i >= 0; i--) {
            callPeople(7);
        }
        same("cast", desk.cast(4000), plain.cast(4000), 4000);
        // Who comes later is no way for the CAST, but can take over.
        for (int person = people; person < people + 3; person++) {
            addKnower(person, tracks);
        }
        for (int i = 0; i < 8; i++) {
            callTonight(19);
            // Back again, who was HURT can take over, or be HURT from an earlier CUE on.
            callTonight(15);
            callShow(2);
        }
    }

    private void makeSparse(int tracks, int people) {
        for (int track = 0; track < tracks; track++) {
            same("track", desk.track(dress), plain.track(dress), dress);
            for (int i = random.nextInt(4); i > 0; i--) {
                int cue = random.nextInt(cues), place = random.nextInt(10);
                same("in", desk.in(track, cue, place, 0), plain.in(track, cue, place, 0), track, cue, place, 0);
            }
        }
        for (int person = 0; person < people; person++) {
            addKnower(person, tracks);
        }
    }

    private void addKnower(int person, int tracks) {
        int kind = random.nextInt(4);
        same("person", desk.person(kind, dress), plain.person(kind, dress), kind, dress);
        for (int track = 0; track < tracks; track++) {
            if (random.nextInt(3) > 0) {
                same("did", desk.did(person, track), plain.did(person, track), person, track);
            }
        }
    }

    private void planForStale() {
        makeCompany(1 + random.nextInt(6), 2 + random.nextInt(9), 10 + random.nextInt(80));
        for (int i = 0; i < 5; i++) {
            int days = 10 + random.nextInt(50);
            same("days", desk.days(days), plain.days(days), days);
            for (int j = random.nextInt(15); j >= 0; j--) {
                callPeople(8);
            }
            callRest(21);
        }
    }

    private void makeCompany(int tracks, int people, int hundredthsKnown) {
        for (int track = 0; track < tracks; track++) {
            call(0);
            for (int i = random.nextInt(cues); i >= 0; i--) {
                callShow(2);
            }
        }
        for (int person = 0; person < people; person++) {
            call(1);
            for (int track = 0; track < tracks; track++) {
                if (random.nextInt(100) < hundredthsKnown) {
                    same("did", desk.did(person, track), plain.did(person, track), person, track);
                }
            }
        }
    }

    /** The calls that make a state come oftener early and late; reading calls come at all times. */
    private int draw() {
        int at = random.nextInt(100);
        return at < 1 ? 0 : at < 2 ? 1 : at < 20 ? 2 : at < 26 ? 3 : at < 28 ? 4 : at < 31 ? 5 : at < 33 ? 6 : at < 37 ? 7
                : at < 50 ? 8 : at < 53 ? 9 : at < 57 ? 10 : at < 60 ? 11 : at < 62 ? 12 : at < 66 ? 13 : at < 72 ? 14
                : at < 76 ? 15 : at < 78 ? 16 : at < 81 ? 17 : at < 86 ? 18 : at < 90 ? 19 : at < 92 ? 20 : at < 94 ? 21
                : at < 95 ? 22 : at < 97 ? 23 : at < 98 ? 24 : 25;
    }

    private int pick(int below) {
        return random.nextInt(odd) == 0 ? ODD[random.nextInt(ODD.length)] : random.nextInt(Math.max(1, below));
    }

    private int aTrack() {
        return pick(plain.count(0));
    }

    private int aPerson() {
        return pick(plain.count(1));
    }

    private int aCue() {
        return pick(cues);
    }

    private int near(int middle) {
        return random.nextInt(odd) == 0 ? pick(10) : Math.max(1, Math.min(9, middle + random.nextInt(3) - 1));
    }

    private int orNone(int value, int oneIn) {
        return random.nextInt(oneIn) == 0 ? NONE : value;
    }

    private void same(String name, long got, long want, int... args) {
        due.is("run " + run + ": " + name + java.util.Arrays.toString(args), got, want);
    }

    private void call(int which) {
        if (which < 7) {
            callShow(which);
        } else if (which < 14) {
            callPeople(which);
        } else if (which < 21) {
            callTonight(which);
        } else {
            callRest(which);
        }
    }

    private void callShow(int which) {
        int a = aTrack(), c = aCue(), b = aTrack();
        switch (which) {
            case 0: {
                int d = near(dress);
                same("track", desk.track(d), plain.track(d), d);
                break;
            }
            case 1: {
                int k = pick(4), s = near(dress);
                same("person", desk.person(k, s), plain.person(k, s), k, s);
                break;
            }
            case 2: {
                int place = orNone(pick(10), 5), must = pick(2);
                same("in", desk.in(a, c, place, must), plain.in(a, c, place, must), a, c, place, must);
                break;
            }
            case 3: {
                int track = orNone(a, 12);
                same("lift", desk.lift(c, track, b), plain.lift(c, track, b), c, track, b);
                break;
            }
            case 4: {
                int s = pick(2);
                same("lay", desk.lay(a, c, s), plain.lay(a, c, s), a, c, s);
                break;
            }
            case 5: {
                int what = pick(3);
                same("told", desk.told(a, c, what), plain.told(a, c, what), a, c, what);
                break;
            }
            default: {
                int what = pick(8);
                same("count", desk.count(what), plain.count(what), what);
                break;
            }
        }
    }

    private void callPeople(int which) {
        int p = aPerson(), q = aPerson(), t = aTrack();
        switch (which) {
            case 7: {
                int track = orNone(t, 8);
                same("own", desk.own(p, track), plain.own(p, track), p, track);
                break;
            }
            case 8:
                same("did", desk.did(p, t), plain.did(p, t), p, t);
                break;
            case 9:
                same("fresh", desk.fresh(p, t), plain.fresh(p, t), p, t);
                break;
            case 10:
                same("rehearse", desk.rehearse(p, q), plain.rehearse(p, q), p, q);
                break;
            case 11: {
                int on = pick(2);
                same("feud", desk.feud(p, q, on), plain.feud(p, q, on), p, q, on);
                break;
            }
            case 12: {
                int n = random.nextInt(4) == 0 ? pick(62) : pick(16);
                same("days", desk.days(n), plain.days(n), n);
                break;
            }
            default: {
                int k = pick(4);
                same("isOf", desk.isOf(p, k), plain.isOf(p, k), p, k);
                break;
            }
        }
    }

    private void callTonight(int which) {
        int p = aPerson(), t = aTrack(), c = aCue();
        switch (which) {
            case 14: {
                int[] many = {1, 10, 100, 400, 400, 400, 1000, 30000};
                int drawn = random.nextInt(odd) == 0 ? pick(30001) : many[random.nextInt(many.length)];
                int tries = random.nextInt(20) == 0 ? drawn : Math.min(drawn, 600);
                same("cast", desk.cast(tries), plain.cast(tries), tries);
                sameNight();
                break;
            }
            case 15: {
                int from = random.nextInt(2) == 0 ? 30 : c;
                same("out", desk.out(p, from), plain.out(p, from), p, from);
                break;
            }
            case 16:
                same("has", desk.has(t), plain.has(t), t);
                break;
            case 17:
                same("who", desk.who(c), plain.who(c), c);
                break;
            case 18:
                same("done", desk.done(c), plain.done(c), c);
                break;
            case 19:
                same("hurt", desk.hurt(p, c), plain.hurt(p, c), p, c);
                sameNight();
                break;
            default:
                same("at", desk.at(t, c), plain.at(t, c), t, c);
                break;
        }
    }

    /** What only reads is asked in full, so that a difference shows at the call that made it. */
    private void sameNight() {
        for (int track = 0; track < plain.count(0); track++) {
            same("has", desk.has(track), plain.has(track), track);
            for (int cue = 0; cue < 30; cue += 1 + random.nextInt(6)) {
                same("at", desk.at(track, cue), plain.at(track, cue), track, cue);
            }
        }
        for (int cue = 0; cue < 30; cue++) {
            same("who", desk.who(cue), plain.who(cue), cue);
            same("done", desk.done(cue), plain.done(cue), cue);
        }
    }

    private void callRest(int which) {
        int s = pick(2), place = pick(8);
        switch (which) {
            case 21: {
                if (plain.waysOfPlans() <= MOST_WAYS_OF_PLANS) {
                    same("plan", desk.plan(), plain.plan());
                    for (int person = -1; person <= plain.count(1); person++) {
                        same("putIn", desk.putIn(person), plain.putIn(person), person);
                    }
                }
                break;
            }
            case 22: {
                int n = random.nextInt(6) == 0 ? pick(32) : pick(9);
                same("sheet", desk.sheet(s, n), plain.sheet(s, n), s, n);
                break;
            }
            case 23: {
                int v = random.nextInt(5) == 0 ? random.nextInt() : random.nextInt(14) - 2;
                same("mark", desk.mark(s, place, v), plain.mark(s, place, v), s, place, v);
                break;
            }
            case 24: {
                int to = pick(2), at = pick(6), many = pick(6);
                same("copy", desk.copy(s, place, to, at, many), plain.copy(s, place, to, at, many),
                        s, place, to, at, many);
                break;
            }
            default: {
                int what = pick(8);
                same("count", desk.count(what), plain.count(what), what);
                break;
            }
        }
    }
}
