import java.util.Arrays;
import java.util.function.Supplier;
import java.util.function.ToIntFunction;

/**
 * Desks made by the same calls. One of them takes one call more; if that call must change nothing, all that can be
 * asked behind it is answered as by a desk that did not take it. What is asked is split into views, and a new twin is
 * made for each of them: an object is good for 512 calls, and some things can only be asked by changing them.
 */
final class Twins {
    static final int VIEWS = 9;

    private final Due due;
    private final Supplier<SwingDesk> maker;
    private final int[][] untouched = new int[VIEWS][];

    Twins(Due due, Supplier<SwingDesk> maker) {
        this.due = due;
        this.maker = maker;
        for (int view = 0; view < VIEWS; view++) {
            untouched[view] = read(view, maker.get());
        }
    }

    int answerOf(ToIntFunction<SwingDesk> call) {
        return call.applyAsInt(maker.get());
    }

    /** The call gets this answer, and nothing is changed by it. */
    void keeps(String what, ToIntFunction<SwingDesk> call, int want) {
        for (int view = 0; view < VIEWS; view++) {
            SwingDesk x = maker.get();
            due.is(what, call.applyAsInt(x), want);
            due.is(what + " changes view " + view + ", the answer of number",
                    Arrays.mismatch(read(view, x), untouched[view]), -1);
        }
    }

    /** The call is answered and changes what can be asked. */
    void changes(String what, ToIntFunction<SwingDesk> call, int want) {
        int changed = 0;
        for (int view = 0; view < VIEWS; view++) {
            SwingDesk x = maker.get();
            due.is(what, call.applyAsInt(x), want);
            changed += Arrays.equals(read(view, x), untouched[view]) ? 0 : 1;
        }
        due.holds(what + " changes something", changed > 0);
    }

    private static int[] read(int view, SwingDesk x) {
        switch (view) {
            case 0:
            case 1:
            case 2:
                return tolds(x, view);
            case 3:
                return holders(x);
            case 4:
                return night(x);
            case 5:
                return company(x);
            case 6:
                return lastDays(x);
            case 7:
                return sheets(x);
            default:
                return growth(x);
        }
    }

    private static int[] tolds(SwingDesk x, int what) {
        int[] is = new int[8 * 30];
        for (int i = 0; i < is.length; i++) {
            is[i] = x.told(i / 30, i % 30, what);
        }
        return is;
    }

    private static int[] holders(SwingDesk x) {
        int[] is = new int[8 * 30];
        for (int i = 0; i < is.length; i++) {
            is[i] = x.at(i / 30, i % 30);
        }
        return is;
    }

    private static int[] night(SwingDesk x) {
        int[] is = new int[8 + 30 + 30 + 8 + 1 + 10];
        int n = 0;
        for (int track = 0; track < 8; track++) {
            is[n++] = x.has(track);
        }
        for (int cue = 0; cue < 30; cue++) {
            is[n++] = x.who(cue);
            is[n++] = x.done(cue);
        }
        for (int what = 0; what < 8; what++) {
            is[n++] = x.count(what);
        }
        is[n++] = x.plan();
        for (int person = 0; person < 10; person++) {
            is[n++] = x.putIn(person);
        }
        return is;
    }

    private static int[] company(SwingDesk x) {
        int[] is = new int[10 * (4 + 8 + 2 + 10) + 30];
        int n = 0;
        for (int person = 0; person < 10; person++) {
            for (int kind = 0; kind < 4; kind++) {
                is[n++] = x.isOf(person, kind);
            }
            for (int track = 0; track < 8; track++) {
                is[n++] = x.fresh(person, track);
            }
            is[n++] = x.out(person, 30);
            is[n++] = x.own(person, Due.NONE);
            for (int other = 0; other < 10; other++) {
                is[n++] = x.feud(person, other, 0);
            }
        }
        // Where nobody OWNS a TRACK any more, it shows which one of a LIFT is the first.
        for (int cue = 0; cue < 30; cue++) {
            is[n++] = x.done(cue);
        }
        return is;
    }

    private static int[] lastDays(SwingDesk x) {
        int[] is = new int[10 * (8 + 10)];
        int n = 0;
        for (int person = 0; person < 10; person++) {
            for (int track = 0; track < 8; track++) {
                is[n++] = x.did(person, track);
            }
            for (int other = 0; other < 10; other++) {
                is[n++] = x.rehearse(person, other);
            }
        }
        return is;
    }

    private static int[] sheets(SwingDesk x) {
        int[] is = new int[2 * 31];
        for (int i = 0; i < is.length; i++) {
            is[i] = x.mark(i / 31, i % 31, 77);
        }
        return is;
    }

    /** What comes next, and what SIZES and DRESSES decide: a CAST, for which all KNOW all. */
    private static int[] growth(SwingDesk x) {
        int[] is = new int[3 + 10 + 10];
        int n = 0;
        for (int track = 0; track < 8; track++) {
            for (int cue = 0; cue < 2; cue++) {
                x.in(track, cue, track, 0);
            }
            for (int person = 0; person < 10; person++) {
                x.did(person, track);
            }
        }
        is[n++] = x.cast(2000);
        for (int person = 0; person < 10; person++) {
            is[n++] = x.hurt(person, 0);
            is[n++] = x.who(0);
        }
        is[n++] = x.track(5);
        is[n++] = x.person(0, 5);
        return is;
    }
}
