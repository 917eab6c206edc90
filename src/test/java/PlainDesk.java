import java.util.ArrayList;
import java.util.HashMap;
import java.util.HashSet;
import java.util.List;
import java.util.Map;
import java.util.Set;

/**
 * The document once more, as slowly and as word by word as it can be written: a cast is judged whole, plans are
 * all gone through. ModelTest holds SwingDesk against it.
 */
final class PlainDesk {
    private static final int BAD = Due.BAD, NO = Due.NO, FULL = Due.FULL, SPENT = Due.SPENT, NONE = Due.NONE,
            NOTHING = Due.NOTHING, INDEX = Due.INDEX, SIZE = Due.SIZE;

    private record Spot(int place, int must) { }

    private record Pair(int first, int second) { }

    private final List<Integer> dress = new ArrayList<>();
    private final Map<Pair, Spot> spots = new HashMap<>();
    private final Map<Integer, Pair> lifts = new HashMap<>();
    private final List<Integer> kind = new ArrayList<>();
    private final List<Integer> size = new ArrayList<>();
    private final Map<Integer, Integer> owner = new HashMap<>();
    private final Map<Pair, Integer> last = new HashMap<>();
    private final Map<Pair, Integer> rehearsed = new HashMap<>();
    private final Set<Set<Integer>> feuds = new HashSet<>();
    private final Map<Integer, Integer> outs = new HashMap<>();
    private final byte[][] sheets = new byte[2][];
    private int today = 0;
    private List<Integer> cast = null;
    private Map<Pair, Integer> holders = new HashMap<>();

    private boolean t(int track) {
        return track >= 0 && track < dress.size();
    }

    private boolean p(int person) {
        return person >= 0 && person < kind.size();
    }

    private boolean c(int cue) {
        return cue >= 0 && cue <= 29;
    }

    int track(int d) {
        if (d < 1 || d > 9) {
            return BAD;
        }
        if (dress.size() == 8) {
            return FULL;
        }
        dress.add(d);
        return dress.size() - 1;
    }

    int in(int track, int cue, int place, int must) {
        if (!t(track) || !c(cue) || (place != NONE && (place < 0 || place > 9)) || (must != 0 && must != 1)) {
            return BAD;
        }
        int was = told(track, cue, 0);
        Pair lift = lifts.get(cue);
        if (lift != null && (lift.first() == track || lift.second() == track)) {
            lifts.remove(cue);
        }
        if (place == NONE) {
            spots.remove(new Pair(track, cue));
        } else {
            spots.put(new Pair(track, cue), new Spot(place, must));
        }
        return was;
    }

    int lift(int cue, int track, int other) {
        if (!c(cue)) {
            return BAD;
        }
        if (track == NONE) {
            return lifts.remove(cue) != null ? 1 : 0;
        }
        if (!t(track) || !t(other) || track == other) {
            return BAD;
        }
        if (!in(track, cue) || !in(other, cue)) {
            return NO;
        }
        return lifts.put(cue, new Pair(track, other)) != null ? 1 : 0;
    }

    int lay(int track, int cue, int sheet) {
        if (!t(track) || !c(cue) || sheet < 0 || sheet > 1) {
            return BAD;
        }
        if (sheets[sheet] == null) {
            return NOTHING;
        }
        if (cue + sheets[sheet].length > 30) {
            return INDEX;
        }
        int at = cue;
        for (byte b : sheets[sheet]) {
            in(track, at++, b >= 0 && b <= 9 ? b : NONE, 0);
        }
        return sheets[sheet].length;
    }

    int told(int track, int cue, int what) {
        if (!t(track) || !c(cue) || what < 0 || what > 2) {
            return BAD;
        }
        Spot spot = spots.get(new Pair(track, cue));
        if (what < 2) {
            return what == 0 ? (spot == null ? NONE : spot.place()) : (spot == null ? 0 : spot.must());
        }
        Pair lift = lifts.get(cue);
        if (lift == null || (lift.first() != track && lift.second() != track)) {
            return NONE;
        }
        return lift.first() + lift.second() - track;
    }

    private boolean in(int track, int cue) {
        return spots.containsKey(new Pair(track, cue));
    }

    private int place(int track, int cue) {
        return spots.get(new Pair(track, cue)).place();
    }

    int person(int k, int s) {
        if (k < 0 || k > 3 || s < 1 || s > 9) {
            return BAD;
        }
        if (kind.size() == 10) {
            return FULL;
        }
        kind.add(k);
        size.add(s);
        return kind.size() - 1;
    }

    int isOf(int person, int k) {
        if (!p(person) || k < 0 || k > 3) {
            return BAD;
        }
        int is = kind.get(person);
        return k == 0 || is == k || (is == 3 && k == 2) ? 1 : 0;
    }

    private boolean swing(int person) {
        return kind.get(person) >= 2;
    }

    int own(int person, int track) {
        if (!p(person) || (track != NONE && !t(track))) {
            return BAD;
        }
        if (track != NONE && owner.containsKey(track) && owner.get(track) != person) {
            return NO;
        }
        int was = NONE;
        for (int i = 0; i < dress.size(); i++) {
            if (owner.containsKey(i) && owner.get(i) == person) {
                was = i;
                owner.remove(i);
            }
        }
        if (track != NONE) {
            owner.put(track, person);
        }
        return was;
    }

    int did(int person, int track) {
        if (!p(person) || !t(track)) {
            return BAD;
        }
        Integer day = last.put(new Pair(person, track), today);
        return day == null ? NONE : today - day;
    }

    int fresh(int person, int track) {
        if (!p(person) || !t(track)) {
            return BAD;
        }
        Integer day = last.get(new Pair(person, track));
        if (day == null) {
            return NO;
        }
        return today - day < (swing(person) ? 60 : 30) ? 1 : 0;
    }

    int rehearse(int person, int other) {
        if (!p(person) || !p(other) || person == other) {
            return BAD;
        }
        Integer day = rehearsed.put(new Pair(person, other), today);
        return day == null ? NONE : today - day;
    }

    private boolean freshPair(int person, int other) {
        Integer day = rehearsed.get(new Pair(person, other));
        return day != null && today - day <= 29;
    }

    int feud(int person, int other, int on) {
        if (!p(person) || !p(other) || person == other || on < 0 || on > 1) {
            return BAD;
        }
        Set<Integer> two = Set.of(person, other);
        boolean was = feuds.contains(two);
        if (on == 1) {
            feuds.add(two);
        } else {
            feuds.remove(two);
        }
        return was ? 1 : 0;
    }

    int days(int n) {
        if (n < 1 || n > 60 || today + n > 400) {
            return BAD;
        }
        outs.clear();
        cast = null;
        today += n;
        return today;
    }

    int out(int person, int cue) {
        if (!p(person) || cue < 0 || cue > 30) {
            return BAD;
        }
        int was = outs.getOrDefault(person, 30);
        outs.remove(person);
        if (cue < 30) {
            outs.put(person, cue);
        }
        return was;
    }

    private int tries;
    private int most;
    private int least;
    private List<Integer> first;

    int cast(int n) {
        if (n < 1 || n > 30000) {
            return BAD;
        }
        tries = 0;
        most = n;
        least = Integer.MAX_VALUE;
        first = null;
        put(new ArrayList<>());
        if (tries > most) {
            return SPENT;
        }
        cast = first;
        holders = new HashMap<>();
        for (int track = 0; track < cast.size(); track++) {
            for (int cue = 0; cue < 30; cue++) {
                holders.put(new Pair(track, cue), cast.get(track));
            }
        }
        return least;
    }

    private void put(List<Integer> sofar) {
        if (tries > most) {
            return;
        }
        if (sofar.size() == dress.size()) {
            int loss = loss(sofar);
            if (loss < least) {
                least = loss;
                first = new ArrayList<>(sofar);
            }
            return;
        }
        for (int person = 0; person < kind.size(); person++) {
            sofar.add(person);
            if (fits(sofar)) {
                tries++;
                put(sofar);
            }
            sofar.remove(sofar.size() - 1);
        }
        sofar.add(NONE);
        put(sofar);
        sofar.remove(sofar.size() - 1);
    }

    private boolean playable(int person, int track) {
        boolean owns = owner.containsKey(track) && owner.get(track) == person;
        return (owns || last.containsKey(new Pair(person, track)))
                && Math.abs(size.get(person) - dress.get(track)) <= 1;
    }

    private boolean fits(List<Integer> way) {
        for (int a = 0; a < way.size(); a++) {
            int pa = way.get(a);
            if (pa == NONE) {
                continue;
            }
            if (!playable(pa, a)) {
                return false;
            }
            for (int cue = outs.getOrDefault(pa, 30); cue < 30; cue++) {
                if (in(a, cue)) {
                    return false;
                }
            }
            for (int b = 0; b < way.size(); b++) {
                int pb = way.get(b);
                if (a != b && pb != NONE && !fitTogether(a, pa, b, pb)) {
                    return false;
                }
            }
        }
        return true;
    }

    private boolean fitTogether(int a, int pa, int b, int pb) {
        for (int cue = 0; cue < 30; cue++) {
            if (!in(a, cue)) {
                continue;
            }
            if (pa == pb && in(b, cue)) {
                return false;
            }
            if (pa == pb && in(b, cue + 1) && Math.abs(place(a, cue) - place(b, cue + 1)) > 5) {
                return false;
            }
            if (pa != pb && feuds.contains(Set.of(pa, pb)) && in(b, cue)
                    && Math.abs(place(a, cue) - place(b, cue)) < 2) {
                return false;
            }
        }
        return true;
    }

    private int loss(List<Integer> way) {
        int loss = 0;
        for (int track = 0; track < way.size(); track++) {
            int person = way.get(track);
            if (person == NONE) {
                loss += 20;
                for (int cue = 0; cue < 30; cue++) {
                    loss += in(track, cue) && told(track, cue, 1) == 1 ? 10 : 0;
                }
            } else if (!owner.containsKey(track)) {
                loss += fresh(person, track) == 1 ? 0 : 3;
            } else if (owner.get(track) != person) {
                loss += (swing(person) ? 1 : 2) + (fresh(person, track) == 1 ? 0 : 3);
            }
        }
        for (int person = 0; person < kind.size(); person++) {
            int has = 0;
            for (int one : way) {
                has += one == person ? 1 : 0;
            }
            loss += has > 1 ? 4 * (has - 1) : 0;
        }
        for (Pair lift : lifts.values()) {
            loss += liftDone(lift, way) ? 0 : 6;
        }
        return loss;
    }

    private boolean liftDone(Pair lift, List<Integer> way) {
        int one = lift.first() < way.size() ? way.get(lift.first()) : NONE;
        int two = lift.second() < way.size() ? way.get(lift.second()) : NONE;
        if (one == NONE || two == NONE) {
            return false;
        }
        boolean bothOwn = owner.getOrDefault(lift.first(), NONE) == one && owner.getOrDefault(lift.second(), NONE) == two;
        return bothOwn || freshPair(one, two);
    }

    int has(int track) {
        if (!t(track)) {
            return BAD;
        }
        return cast == null || track >= cast.size() ? NONE : cast.get(track);
    }

    private int holder(int track, int cue) {
        return holders.getOrDefault(new Pair(track, cue), NONE);
    }

    int who(int cue) {
        if (!c(cue)) {
            return BAD;
        }
        if (cast == null) {
            return NO;
        }
        int bits = 0;
        for (int person = 0; person < kind.size(); person++) {
            bits += holdsIn(person, cue) ? 1 << person : 0;
        }
        return bits;
    }

    private boolean holdsIn(int person, int cue) {
        for (int track = 0; track < dress.size(); track++) {
            if (in(track, cue) && holder(track, cue) == person) {
                return true;
            }
        }
        return false;
    }

    int done(int cue) {
        if (!c(cue)) {
            return BAD;
        }
        if (!lifts.containsKey(cue)) {
            return NONE;
        }
        if (cast == null) {
            return NO;
        }
        return liftDone(lifts.get(cue), cast) ? 1 : 0;
    }

    int hurt(int person, int cue) {
        if (!p(person) || !c(cue)) {
            return BAD;
        }
        if (cast == null) {
            return NO;
        }
        outs.put(person, cue);
        int taken = 0;
        for (int track = 0; track < dress.size(); track++) {
            int from = cue;
            while (from < 30 && holder(track, from) != person) {
                from++;
            }
            if (from < 30) {
                taken += takeOver(track, from);
            }
        }
        return taken;
    }

    private int takeOver(int track, int from) {
        boolean asked = false;
        for (int cue = from; cue < 30; cue++) {
            holders.put(new Pair(track, cue), NONE);
            asked |= in(track, cue);
        }
        for (int person = 0; asked && person < kind.size(); person++) {
            boolean can = !outs.containsKey(person) && playable(person, track);
            for (int cue = from; cue < 30; cue++) {
                can &= !in(track, cue) || !holdsIn(person, cue);
            }
            if (can) {
                for (int cue = from; cue < 30; cue++) {
                    holders.put(new Pair(track, cue), person);
                }
                return 1;
            }
        }
        return 0;
    }

    int at(int track, int cue) {
        if (!t(track) || !c(cue)) {
            return BAD;
        }
        return cast == null ? NO : holder(track, cue);
    }

    private int leastHours;
    private List<Integer> firstPlan;

    int plan() {
        leastHours = Integer.MAX_VALUE;
        firstPlan = null;
        goThroughPlans(new ArrayList<>(), 0);
        return firstPlan == null ? NO : leastHours;
    }

    int putIn(int person) {
        if (!p(person)) {
            return BAD;
        }
        return plan() == NO ? NO : firstPlan.get(person);
    }

    private void goThroughPlans(List<Integer> sofar, int hours) {
        // Hours only grow, and of equal ones the first is kept: nothing is lost by going no further.
        if (hours >= leastHours) {
            return;
        }
        if (sofar.size() == kind.size()) {
            if (isPlan(sofar)) {
                leastHours = hours;
                firstPlan = new ArrayList<>(sofar);
            }
            return;
        }
        int person = sofar.size();
        for (int track = 0; track < dress.size(); track++) {
            if (fresh(person, track) == 0) {
                sofar.add(track);
                goThroughPlans(sofar, hours + hoursOf(track));
                sofar.remove(sofar.size() - 1);
            }
        }
        sofar.add(NONE);
        goThroughPlans(sofar, hours);
        sofar.remove(sofar.size() - 1);
    }

    private int hoursOf(int track) {
        int cues = 0;
        for (int cue = 0; cue < 30; cue++) {
            cues += in(track, cue) ? 1 : 0;
        }
        return cues / 4 + 1;
    }

    private boolean isPlan(List<Integer> way) {
        for (int track = 0; track < dress.size(); track++) {
            int ready = 0;
            for (int person = 0; person < kind.size(); person++) {
                ready += fresh(person, track) == 1 || way.get(person) == track ? 1 : 0;
            }
            if (ready < 2) {
                return false;
            }
        }
        return true;
    }

    /** How many ways there are to go through for a plan; ModelTest asks for none where there are too many. */
    long waysOfPlans() {
        long ways = 1;
        for (int person = 0; person < kind.size(); person++) {
            int own = 1;
            for (int track = 0; track < dress.size(); track++) {
                own += fresh(person, track) == 0 ? 1 : 0;
            }
            ways *= own;
        }
        return ways;
    }

    int sheet(int s, int n) {
        if (s < 0 || s > 1 || n > 30) {
            return BAD;
        }
        if (n < 0) {
            return SIZE;
        }
        sheets[s] = new byte[n];
        return n;
    }

    int mark(int s, int place, int v) {
        if (s < 0 || s > 1) {
            return BAD;
        }
        if (sheets[s] == null) {
            return NOTHING;
        }
        if (place < 0 || place >= sheets[s].length) {
            return INDEX;
        }
        int was = sheets[s][place];
        sheets[s][place] = (byte) v;
        return was;
    }

    int copy(int from, int place, int to, int at, int many) {
        if (from < 0 || from > 1 || to < 0 || to > 1) {
            return BAD;
        }
        if (sheets[from] == null || sheets[to] == null) {
            return NOTHING;
        }
        if (place < 0 || at < 0 || many < 0 || (long) place + many > sheets[from].length
                || (long) at + many > sheets[to].length) {
            return INDEX;
        }
        byte[] were = sheets[from].clone();
        for (int i = 0; i < many; i++) {
            sheets[to][at + i] = were[place + i];
        }
        return many;
    }

    int count(int what) {
        switch (what) {
            case 0: return dress.size();
            case 1: return kind.size();
            case 2: return lifts.size();
            case 3: return today;
            case 4: return outs.size();
            case 5: return owner.size();
            case 6: return feuds.size();
            case 7: return (int) rehearsed.keySet().stream().filter(q -> freshPair(q.first(), q.second())).count();
            default: return BAD;
        }
    }
}
