/**
 * "A call that is refused answers one of BAD, NO, FULL, SPENT, or a FINDING, of several the one that stands first with
 * it, and changes nothing": calls that have two or three reasons to be refused.
 */
public final class OrderTest {
    private static final Due due = new Due();
    private static final int BAD = Due.BAD, NO = Due.NO, FULL = Due.FULL, SPENT = Due.SPENT, NONE = Due.NONE,
            NOTHING = Due.NOTHING, INDEX = Due.INDEX, SIZE = Due.SIZE;

    public static void main(String[] args) {
        Twins full = new Twins(due, Desks::full);
        Twins small = new Twins(due, Desks::small);
        Twins fresh = new Twins(due, SwingDesk::new);
        badAheadOfFull(full);
        badAheadOfNoInTheShow(small);
        layBadNothingIndex(small);
        badAheadOfNoOfPeople(small);
        badAheadOfSpent(small);
        tonightWithoutCast(small);
        onANewDesk(fresh);
        badAheadOfNoOfPlans(small);
        sheetFindings(small, full, fresh);
        due.end();
    }

    private static void badAheadOfFull(Twins full) {
        full.keeps("2 FULL alone", x -> x.track(5), FULL);
        full.keeps("2 too small and FULL", x -> x.track(0), BAD);
        full.keeps("2 too large and FULL", x -> x.track(10), BAD);
        full.keeps("7 FULL alone", x -> x.person(0, 5), FULL);
        full.keeps("7 KIND too small and FULL", x -> x.person(-1, 5), BAD);
        full.keeps("7 KIND too large and FULL", x -> x.person(4, 5), BAD);
        full.keeps("7 SIZE too small and FULL", x -> x.person(0, 0), BAD);
        full.keeps("7 SIZE too large and FULL", x -> x.person(3, 10), BAD);
    }

    private static void badAheadOfNoInTheShow(Twins small) {
        small.keeps("4 NO alone, the other", x -> x.lift(5, 1, 0), NO);
        small.keeps("4 NO alone, the first", x -> x.lift(5, 0, 1), NO);
        small.keeps("4 the same, and IN", x -> x.lift(5, 1, 1), BAD);
        small.keeps("4 the same, and not IN", x -> x.lift(5, 0, 0), BAD);
        small.keeps("4 the other is no TRACK, the first not IN", x -> x.lift(5, 0, 2), BAD);
        small.keeps("4 the first is no TRACK, the other not IN", x -> x.lift(5, 2, 0), BAD);
        small.keeps("4 the same, and no TRACK", x -> x.lift(5, 2, 2), BAD);
        small.keeps("4 no CUE, none IN it", x -> x.lift(30, 0, 1), BAD);
        small.keeps("4 no CUE and no LIFT told", x -> x.lift(30, NONE, 0), BAD);
    }

    private static void layBadNothingIndex(Twins small) {
        small.keeps("5 NOTHING alone", x -> x.lay(0, 0, 0), NOTHING);
        small.keeps("5 no TRACK, MISSING", x -> x.lay(2, 0, 0), BAD);
        small.keeps("5 no CUE, MISSING", x -> x.lay(0, 30, 0), BAD);
        small.keeps("5 MISSING at the last CUE", x -> x.lay(0, 29, 0), NOTHING);
        small.keeps("5 INDEX alone", x -> x.lay(0, 29, 1), INDEX);
        small.keeps("5 no TRACK, too many places", x -> x.lay(-1, 29, 1), BAD);
        small.keeps("5 no CUE, too many places", x -> x.lay(0, 30, 1), BAD);
        small.keeps("5 no SHEET", x -> x.lay(0, 29, 2), BAD);
    }

    private static void badAheadOfNoOfPeople(Twins small) {
        small.keeps("9 NO alone", x -> x.own(2, 1), NO);
        small.keeps("9 NO, of one who OWNS another", x -> x.own(0, 1), NO);
        small.keeps("9 no PERSON, and the TRACK is OWNED", x -> x.own(3, 1), BAD);
        small.keeps("9 no PERSON below 0, and the TRACK is OWNED", x -> x.own(-1, 0), BAD);
        small.keeps("11 NO alone", x -> x.fresh(0, 0), NO);
        small.keeps("11 no TRACK, which nobody KNOWS", x -> x.fresh(2, 2), BAD);
        small.keeps("11 no PERSON, who KNOWS nothing", x -> x.fresh(3, 0), BAD);
    }

    private static void badAheadOfSpent(Twins small) {
        small.keeps("16 SPENT alone", x -> x.cast(1), SPENT);
        small.keeps("16 no TRIES", x -> x.cast(0), BAD);
        small.keeps("16 TRIES below 0", x -> x.cast(-1), BAD);
    }

    private static void tonightWithoutCast(Twins small) {
        small.keeps("18 NO alone", x -> x.who(0), NO);
        small.keeps("18 no CUE, no CAST", x -> x.who(30), BAD);
        small.keeps("18 no CUE below 0, no CAST", x -> x.who(-1), BAD);
        small.keeps("19 NO alone", x -> x.done(4), NO);
        small.keeps("19 no LIFT, no CAST", x -> x.done(5), NONE);
        small.keeps("19 no CUE, no LIFT, no CAST", x -> x.done(30), BAD);
        small.keeps("20 NO alone", x -> x.hurt(0, 0), NO);
        small.keeps("20 no PERSON, no CAST", x -> x.hurt(3, 0), BAD);
        small.keeps("20 CUE 30, no CAST", x -> x.hurt(0, 30), BAD);
        small.keeps("21 NO alone", x -> x.at(1, 29), NO);
        small.keeps("21 no TRACK, no CAST", x -> x.at(2, 0), BAD);
        small.keeps("21 no CUE, no CAST", x -> x.at(0, 30), BAD);
        small.keeps("17 no CAST", x -> x.has(1), NONE);
        small.keeps("17 no TRACK, no CAST", x -> x.has(2), BAD);
    }

    private static void onANewDesk(Twins fresh) {
        fresh.keeps("3 no TRACK", x -> x.in(0, 0, 0, 0), BAD);
        fresh.keeps("4 no LIFT, though there are no TRACKS", x -> x.lift(0, NONE, NONE), 0);
        fresh.keeps("4 no TRACKS", x -> x.lift(0, 0, 1), BAD);
        fresh.keeps("5 no TRACK, MISSING", x -> x.lay(0, 0, 0), BAD);
        fresh.keeps("9 no PERSON", x -> x.own(0, NONE), BAD);
        fresh.keeps("11 neither PERSON nor TRACK", x -> x.fresh(0, 0), BAD);
        fresh.keeps("17 no TRACK", x -> x.has(0), BAD);
        fresh.keeps("18 no CAST", x -> x.who(29), NO);
        fresh.keeps("19 no LIFT", x -> x.done(29), NONE);
        fresh.keeps("20 nobody", x -> x.hurt(0, 0), BAD);
        fresh.keeps("21 no TRACK", x -> x.at(0, 0), BAD);
        fresh.keeps("22 no TRACK lacks one", SwingDesk::plan, 0);
        fresh.keeps("23 nobody", x -> x.putIn(0), BAD);
    }

    private static void badAheadOfNoOfPlans(Twins small) {
        small.keeps("22 NO", SwingDesk::plan, NO);
        small.keeps("23 NO alone", x -> x.putIn(2), NO);
        small.keeps("23 no PERSON, no PLAN", x -> x.putIn(3), BAD);
        small.keeps("23 no PERSON below 0, no PLAN", x -> x.putIn(-1), BAD);
    }

    private static void sheetFindings(Twins small, Twins full, Twins fresh) {
        small.keeps("24 SIZE alone", x -> x.sheet(1, -1), SIZE);
        small.keeps("24 SIZE of a MISSING one", x -> x.sheet(0, -1), SIZE);
        small.keeps("24 no SHEET, below 0", x -> x.sheet(2, -1), BAD);
        small.keeps("24 no SHEET below 0, above 30", x -> x.sheet(-1, 31), BAD);
        small.keeps("25 NOTHING alone", x -> x.mark(0, 0, 0), NOTHING);
        small.keeps("25 MISSING, below 0", x -> x.mark(0, -1, 0), NOTHING);
        small.keeps("25 MISSING, behind all", x -> x.mark(0, 30, 0), NOTHING);
        small.keeps("25 INDEX alone", x -> x.mark(1, 2, 0), INDEX);
        small.keeps("25 no SHEET, no place", x -> x.mark(2, -1, 0), BAD);
        small.keeps("26 NOTHING alone, the one copied", x -> x.copy(0, 0, 1, 0, 1), NOTHING);
        small.keeps("26 NOTHING alone, the one written", x -> x.copy(1, 0, 0, 0, 1), NOTHING);
        small.keeps("26 MISSING, no place in the other", x -> x.copy(0, 0, 1, 3, 1), NOTHING);
        small.keeps("26 no place, MISSING the other", x -> x.copy(1, 3, 0, 0, 1), NOTHING);
        small.keeps("26 MISSING, many below 0", x -> x.copy(0, 0, 1, 0, -1), NOTHING);
        small.keeps("26 INDEX alone", x -> x.copy(1, 0, 1, 1, 2), INDEX);
        small.keeps("26 no SHEET, MISSING the other", x -> x.copy(2, 0, 0, 0, 0), BAD);
        small.keeps("26 MISSING, no SHEET the other", x -> x.copy(0, 0, 2, 0, 0), BAD);
        full.keeps("26 no SHEET, no place", x -> x.copy(0, 31, 2, 31, 31), BAD);
        full.keeps("26 no SHEET, many below 0", x -> x.copy(-1, 0, 0, 0, -1), BAD);
        fresh.keeps("26 both MISSING", x -> x.copy(0, 0, 1, 0, 0), NOTHING);
        fresh.keeps("25 MISSING at first", x -> x.mark(1, 0, 0), NOTHING);
    }
}
