import java.util.Arrays;
import java.util.Random;

/**
 * Plans of whole companies, too many for PlainDesk to go through. A PUT-IN more than a TRACK lacks only costs HOURS, so
 * THE PLAN has just those that are lacking; which PERSON has which is found by asking, PERSON by PERSON and the lesser
 * TRACK first, whether the others can still be matched with what is lacking then.
 */
public final class PlanModelTest {
    private static final int COMPANIES = 4000;
    private static final int NO = Due.NO, NONE = Due.NONE;

    private final Due due;
    private final Random random;
    private final int run;
    private final int tracks;
    private final int people;
    private final SwingDesk desk = new SwingDesk();
    private final boolean[][] isStale;
    private final int[] lacking;
    private final int[] hours;

    private PlanModelTest(Due due, int run) {
        this.due = due;
        this.run = run;
        random = new Random(run);
        tracks = 4 + random.nextInt(5);
        people = 6 + random.nextInt(5);
        isStale = new boolean[people][tracks];
        lacking = new int[tracks];
        hours = new int[tracks];
    }

    public static void main(String[] args) {
        Due due = new Due();
        int plans = 0;
        for (int run = 0; run < COMPANIES; run++) {
            plans += new PlanModelTest(due, run).go() ? 1 : 0;
        }
        due.holds("both are met, a PLAN and none: " + plans, plans > COMPANIES / 5 && plans < COMPANIES * 4 / 5);
        due.end();
    }

    private boolean go() {
        makeShow();
        makePeople();
        boolean isThere = canBeMatched(0, lacking);
        int sum = 0;
        for (int track = 0; track < tracks; track++) {
            sum += lacking[track] * hours[track];
        }
        due.is("run " + run + ": plan()", desk.plan(), isThere ? sum : NO);
        int[] left = lacking.clone();
        for (int person = 0; person < people; person++) {
            int track = isThere ? firstTrack(person, left) : NO;
            if (track >= 0) {
                left[track]--;
            }
            due.is("run " + run + ": putIn(" + person + ")", desk.putIn(person), track);
        }
        return isThere;
    }

    private void makeShow() {
        for (int track = 0; track < tracks; track++) {
            desk.track(5);
            int cues = random.nextInt(31);
            hours[track] = 1 + cues / 4;
            for (int cue = 0; cue < cues; cue++) {
                desk.in(track, cue, 0, 0);
            }
        }
        Arrays.fill(lacking, 2);
    }

    private void makePeople() {
        int known = 20 + random.nextInt(70);
        for (int person = 0; person < people; person++) {
            // No SWINGS, who would still be FRESH after the 45 days below.
            desk.person(person % 2, 5);
            for (int track = 0; track < tracks; track++) {
                isStale[person][track] = random.nextInt(100) < known;
                if (isStale[person][track]) {
                    desk.did(person, track);
                }
            }
        }
        desk.days(45);
        int again = random.nextInt(people * 2);
        for (int i = 0; i < again; i++) {
            int person = random.nextInt(people), track = random.nextInt(tracks);
            if (desk.fresh(person, track) != 1) {
                desk.did(person, track);
                isStale[person][track] = false;
                lacking[track] = Math.max(0, lacking[track] - 1);
            }
        }
    }

    private int firstTrack(int person, int[] left) {
        for (int track = 0; track < tracks; track++) {
            if (isStale[person][track] && left[track] > 0) {
                int[] then = left.clone();
                then[track]--;
                if (canBeMatched(person + 1, then)) {
                    return track;
                }
            }
        }
        return NONE;
    }

    /** Whether PEOPLE from one on can have all that is lacking, one PUT-IN each at most. */
    private boolean canBeMatched(int first, int[] left) {
        int[] has = new int[people];
        Arrays.fill(has, NONE);
        for (int track = 0; track < tracks; track++) {
            for (int i = 0; i < left[track]; i++) {
                if (!match(track, first, has, new boolean[people])) {
                    return false;
                }
            }
        }
        return true;
    }

    private boolean match(int track, int first, int[] has, boolean[] asked) {
        for (int person = first; person < people; person++) {
            if (!isStale[person][track] || asked[person]) {
                continue;
            }
            asked[person] = true;
            if (has[person] == NONE || match(has[person], first, has, asked)) {
                has[person] = track;
                return true;
            }
        }
        return false;
    }
}
