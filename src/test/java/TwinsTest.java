/** The views of Twins see every change: only then "changes nothing" says something in the other tests. */
public final class TwinsTest {
    private static final Due due = new Due();
    private static final int NONE = Due.NONE;

    public static void main(String[] args) {
        Twins full = new Twins(due, Desks::full);
        Twins small = new Twins(due, Desks::small);
        show(small);
        people(small);
        tonight(full);
        sheets(full);
        what(full);
        due.end();
    }

    private static void show(Twins small) {
        small.changes("track", x -> x.track(5), 2);
        small.changes("in", x -> x.in(0, 4, 2, 1), 1);
        small.changes("in, MUST alone", x -> x.in(0, 4, 1, 0), 1);
        small.changes("in, the LIFT alone", x -> x.in(0, 4, 1, 1), 1);
        small.changes("lift", x -> x.lift(4, NONE, 0), 1);
        small.changes("lay", x -> x.lay(0, 28, 1), 2);
    }

    private static void people(Twins small) {
        small.changes("person", x -> x.person(0, 5), 3);
        small.changes("own", x -> x.own(0, NONE), 0);
        small.changes("did", x -> x.did(2, 1), 5);
        small.changes("did, the first time", x -> x.did(0, 0), NONE);
        small.changes("rehearse", x -> x.rehearse(1, 0), NONE);
        small.changes("feud", x -> x.feud(2, 1, 0), 1);
        small.changes("days", x -> x.days(1), 6);
        small.changes("out", x -> x.out(1, 6), 7);
        small.changes("cast", x -> x.cast(30000), 0);
    }

    private static void tonight(Twins full) {
        full.changes("days", x -> x.days(60), 73);
        full.changes("out", x -> x.out(4, 27), 28);
        full.changes("out, not at all", x -> x.out(0, 30), 20);
        full.changes("hurt", x -> x.hurt(9, 29), 0);
        full.changes("lift turned round", x -> x.lift(5, 2, 1), 1);
        full.changes("rehearse again", x -> x.rehearse(9, 0), 13);
    }

    private static void sheets(Twins full) {
        full.changes("sheet", x -> x.sheet(0, 30), 30);
        full.changes("sheet, shorter", x -> x.sheet(1, 2), 2);
        full.changes("mark", x -> x.mark(0, 28, 1), 0);
        full.changes("copy", x -> x.copy(0, 0, 1, 0, 1), 1);
    }

    /** What only asks, and what sets a thing as it is, changes nothing. */
    private static void what(Twins full) {
        full.keeps("told", x -> x.told(1, 5, 0), 1);
        full.keeps("isOf", x -> x.isOf(3, 2), 1);
        full.keeps("fresh", x -> x.fresh(9, 7), 1);
        full.keeps("has", x -> x.has(0), 0);
        full.keeps("who", x -> x.who(29), 0);
        full.keeps("done", x -> x.done(5), 1);
        full.keeps("at", x -> x.at(0, 19), 0);
        full.keeps("count", x -> x.count(1), 10);
        full.keeps("plan", SwingDesk::plan, Due.NO);
        full.keeps("putIn", x -> x.putIn(0), Due.NO);
        full.keeps("own as it is", x -> x.own(3, 3), 3);
        full.keeps("feud as it is", x -> x.feud(9, 0, 1), 1);
        full.keeps("out as it is", x -> x.out(4, 28), 28);
        full.keeps("mark as it is", x -> x.mark(1, 2, 127), 127);
        full.keeps("lift as it is", x -> x.lift(5, 1, 2), 1);
        full.keeps("copy of nothing", x -> x.copy(0, 30, 1, 3, 0), 0);
    }
}
