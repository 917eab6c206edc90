import java.util.Arrays;

/**
 * Every number that a call takes, at the edges of its range and far outside: the last values inside are taken, the
 * first ones outside are refused, and what is refused changes nothing.
 */
public final class RangesTest {
    private static final int BAD = Due.BAD, NONE = Due.NONE;
    /** Around all edges of the document; the findings; and numbers that are inside again once they are cut or wrapped. */
    private static final int[] FAR = {-257, -256, -255, -129, -128, -127, -61, -60, -33, -32, -31, -30, -11, -10, -9, -8,
        -3, -2, -1, 127, 128, 255, 256, 257, 399, 400, 401, 29999, 30000, 30001, 65535, 65536, 65537, 1 << 24, 1 << 30,
        (1 << 31) + 1, (1 << 31) + 5, Due.LEAST, Due.MOST, Due.MOST - 1, BAD, Due.NO, Due.FULL, Due.SPENT, NONE,
        Due.NOTHING, Due.INDEX, Due.SIZE, 1000000005};

    private static final Due due = new Due();

    private interface Call {
        int on(SwingDesk x, int[] a);
    }

    /** A range of one argument, with one value beside it that is taken too, or one inside that is not looked at. */
    private record Range(int least, int most, int beside, int unasked) {
        boolean has(int value) {
            return (value >= least && value <= most) || (beside != 0 && value == beside);
        }
    }

    private static Range to(int least, int most) {
        return new Range(least, most, 0, Due.LEAST + 7);
    }

    private static Range orNone(int least, int most) {
        return new Range(least, most, NONE, Due.LEAST + 7);
    }

    private static Range but(int least, int most, int unasked) {
        return new Range(least, most, 0, unasked);
    }

    public static void main(String[] args) {
        Twins full = new Twins(due, Desks::full);
        Twins small = new Twins(due, Desks::small);
        show(full, 7);
        people(full, 7, 9);
        tonight(full, 7, 9);
        sheets(full);
        show(small, 1);
        people(small, 1, 2);
        newcomers(small);
        nobodyOnANewDesk();
        due.end();
    }

    private static void show(Twins desks, int track) {
        Range tracks = to(0, track);
        Range cues = to(0, 29);
        ranges(desks, "in", (x, a) -> x.in(a[0], a[1], a[2], a[3]), of(1, 5, 3, 1),
                tracks, cues, orNone(0, 9), to(0, 1));
        ranges(desks, "in", (x, a) -> x.in(a[0], a[1], NONE, a[2]), of(1, 5, 1), tracks, cues, to(0, 1));
        ranges(desks, "lift", (x, a) -> x.lift(a[0], a[1], a[2]), of(5, 0, 1),
                cues, new Range(0, track, NONE, 1), but(0, track, 0));
        ranges(desks, "lift", (x, a) -> x.lift(a[0], NONE, 0), of(5), cues);
        ranges(desks, "lay", (x, a) -> x.lay(a[0], a[1], a[2]), of(1, 0, 1), tracks, cues, to(0, 1));
        ranges(desks, "told", (x, a) -> x.told(a[0], a[1], a[2]), of(1, 5, 0), tracks, cues, to(0, 2));
        ranges(desks, "count", (x, a) -> x.count(a[0]), of(0), to(0, 7));
    }

    private static void people(Twins desks, int track, int person) {
        Range tracks = to(0, track);
        Range persons = to(0, person);
        ranges(desks, "isOf", (x, a) -> x.isOf(a[0], a[1]), of(1, 2), persons, to(0, 3));
        ranges(desks, "own", (x, a) -> x.own(a[0], a[1]), of(1, 1), persons, orNone(0, track));
        ranges(desks, "own", (x, a) -> x.own(a[0], NONE), of(1), persons);
        ranges(desks, "did", (x, a) -> x.did(a[0], a[1]), of(1, 1), persons, tracks);
        ranges(desks, "fresh", (x, a) -> x.fresh(a[0], a[1]), of(1, 1), persons, tracks);
        ranges(desks, "rehearse", (x, a) -> x.rehearse(a[0], a[1]), of(1, 0), but(0, person, 0), but(0, person, 1));
        ranges(desks, "feud", (x, a) -> x.feud(a[0], a[1], a[2]), of(1, 0, 1),
                but(0, person, 0), but(0, person, 1), to(0, 1));
        ranges(desks, "days", (x, a) -> x.days(a[0]), of(1), to(1, 60));
        ranges(desks, "out", (x, a) -> x.out(a[0], a[1]), of(1, 5), persons, to(0, 30));
        ranges(desks, "putIn", (x, a) -> x.putIn(a[0]), of(1), persons);
    }

    private static void tonight(Twins desks, int track, int person) {
        Range tracks = to(0, track);
        Range cues = to(0, 29);
        ranges(desks, "cast", (x, a) -> x.cast(a[0]), of(30000), to(1, 30000));
        ranges(desks, "has", (x, a) -> x.has(a[0]), of(1), tracks);
        ranges(desks, "who", (x, a) -> x.who(a[0]), of(5), cues);
        ranges(desks, "done", (x, a) -> x.done(a[0]), of(5), cues);
        ranges(desks, "hurt", (x, a) -> x.hurt(a[0], a[1]), of(1, 5), to(0, person), cues);
        ranges(desks, "at", (x, a) -> x.at(a[0], a[1]), of(1, 5), tracks, cues);
    }

    private static void sheets(Twins desks) {
        Range both = to(0, 1);
        // Below 0 it is SIZE, which SheetEdgesTest asks for.
        ranges(desks, "sheet", (x, a) -> x.sheet(a[0], a[1]), of(1, 5), both, to(Due.LEAST, 30));
        ranges(desks, "mark", (x, a) -> x.mark(a[0], a[1], a[2]), of(1, 0, 5),
                both, to(Due.LEAST, Due.MOST), to(Due.LEAST, Due.MOST));
        ranges(desks, "copy", (x, a) -> x.copy(a[0], a[1], a[2], a[3], a[4]), of(0, 0, 1, 0, 1),
                both, to(Due.LEAST, Due.MOST), both, to(Due.LEAST, Due.MOST), to(Due.LEAST, Due.MOST));
    }

    private static void newcomers(Twins desks) {
        ranges(desks, "track", (x, a) -> x.track(a[0]), of(5), to(1, 9));
        ranges(desks, "person", (x, a) -> x.person(a[0], a[1]), of(0, 5), to(0, 3), to(1, 9));
    }

    /** On a new desk there is no TRACK and no PERSON, so no number of one is inside. */
    private static void nobodyOnANewDesk() {
        Twins fresh = new Twins(due, SwingDesk::new);
        Range none = to(1, 0);
        ranges(fresh, "in", (x, a) -> x.in(a[0], 0, 0, 0), of(0), none);
        ranges(fresh, "lift", (x, a) -> x.lift(0, a[0], 1), of(0), new Range(1, 0, NONE, 0));
        ranges(fresh, "lay", (x, a) -> x.lay(a[0], 0, 0), of(0), none);
        ranges(fresh, "told", (x, a) -> x.told(a[0], 0, 0), of(0), none);
        ranges(fresh, "isOf", (x, a) -> x.isOf(a[0], 0), of(0), none);
        ranges(fresh, "own", (x, a) -> x.own(a[0], NONE), of(0), none);
        ranges(fresh, "did", (x, a) -> x.did(a[0], 0), of(0), none);
        ranges(fresh, "fresh", (x, a) -> x.fresh(a[0], 0), of(0), none);
        ranges(fresh, "rehearse", (x, a) -> x.rehearse(a[0], 1), of(0), none);
        ranges(fresh, "feud", (x, a) -> x.feud(a[0], 1, 1), of(0), none);
        ranges(fresh, "out", (x, a) -> x.out(a[0], 0), of(0), none);
        ranges(fresh, "has", (x, a) -> x.has(a[0]), of(0), none);
        ranges(fresh, "hurt", (x, a) -> x.hurt(a[0], 0), of(0), none);
        ranges(fresh, "at", (x, a) -> x.at(a[0], 0), of(0), none);
        ranges(fresh, "putIn", (x, a) -> x.putIn(a[0]), of(0), none);
    }

    private static int[] of(int... base) {
        return base;
    }

    private static void ranges(Twins desks, String name, Call call, int[] base, Range... of) {
        due.is(name + ": a range for each argument", of.length, base.length);
        for (int i = 0; i < of.length; i++) {
            for (int value = -2; value <= 64; value++) {
                oneValue(desks, name, call, base, i, value, of[i]);
            }
            for (int value : FAR) {
                oneValue(desks, name, call, base, i, value, of[i]);
            }
        }
    }

    private static void oneValue(Twins desks, String name, Call call, int[] base, int i, int value, Range range) {
        if (value == range.unasked()) {
            return;
        }
        int[] a = base.clone();
        a[i] = value;
        String what = name + Arrays.toString(a);
        if (range.has(value)) {
            due.holds(what + " is taken", desks.answerOf(x -> call.on(x, a)) != BAD);
        } else {
            desks.keeps(what, x -> call.on(x, a), BAD);
        }
    }
}
