/** The sentences of promises 7 to 14 that name an edge, each asked on the last value inside and the first outside. */
public final class PeopleEdgesTest {
    private static final Due due = new Due();
    private static final int BAD = Due.BAD, NO = Due.NO, FULL = Due.FULL, NONE = Due.NONE;

    public static void main(String[] args) {
        tenPeople();
        sizesOneToNine();
        kindsZeroToThree();
        ownedByOneAtMost();
        ownsOneAtMost();
        ownOfTheLast();
        learntOnTheFirstDay();
        learntOnTheLastDay();
        didOfTheLast();
        freshBelowThirty();
        freshBelowSixtyOfSwings();
        freshOfUnknown();
        rehearsedForThirtyDays();
        rehearsedOneWay();
        rehearsedOfTheLast();
        feudsBothWays();
        feudsOfAll();
        oneToSixtyDays();
        fourHundredDays();
        fourHundredByOnes();
        newNight();
        lastCallOfAnObject();
        due.end();
    }

    private static SwingDesk people(int many, int kind) {
        SwingDesk x = Due.desk(8, 5);
        Due.people(x, many, kind, 5);
        return x;
    }

    private static void pass(SwingDesk x, int days) {
        for (int left = days; left > 0; left -= 60) {
            x.days(Math.min(60, left));
        }
    }

    /** "PEOPLE, 10 at most, numbered from 0"; "One more PERSON: their number. BAD; FULL." */
    private static void tenPeople() {
        SwingDesk x = new SwingDesk();
        for (int person = 0; person < 10; person++) {
            due.is("7 not yet there", x.isOf(person, 0), BAD);
            due.is("7 their number", x.person(0, 5), person);
            due.is("7 there", x.isOf(person, 0), 1);
            due.is("7 one more", x.count(1), person + 1);
        }
        due.is("7 the eleventh", x.person(3, 9), FULL);
        due.is("7 is not there", x.isOf(10, 0), BAD);
        due.is("7 still ten", x.count(1), 10);
        new Twins(due, () -> people(10, 0)).keeps("7 the eleventh", d -> d.person(0, 5), FULL);
        new Twins(due, () -> people(9, 0)).changes("7 the tenth", d -> d.person(0, 5), 9);
    }

    /** "a SIZE 1 .. 9" */
    private static void sizesOneToNine() {
        for (int size = 1; size <= 9; size++) {
            for (int dress = 1; dress <= 9; dress++) {
                SwingDesk x = Due.desk(1, dress);
                due.is("7 SIZE " + size, x.person(0, size), 0);
                x.own(0, 0);
                boolean fits = size - dress >= -1 && size - dress <= 1;
                due.is("7 SIZE " + size + ", DRESS " + dress, x.cast(1), fits ? 0 : 20);
            }
        }
        SwingDesk x = new SwingDesk();
        due.is("7 SIZE 0", x.person(0, 0), BAD);
        due.is("7 SIZE 10", x.person(0, 10), BAD);
        due.is("7 KIND -1", x.person(-1, 5), BAD);
        due.is("7 KIND 4", x.person(4, 5), BAD);
        due.is("7 nobody by them", x.count(1), 0);
        due.is("7 the first number is still free", x.person(3, 9), 0);
    }

    /** "0 PLAYER, 1 LEAD, 2 SWING, 3 CAPTAIN (all are PLAYERS; CAPTAINS are SWINGS, too)" */
    private static void kindsZeroToThree() {
        String[] is = {"1000", "1100", "1010", "1011"};
        for (int kind = 0; kind < 4; kind++) {
            SwingDesk x = new SwingDesk();
            x.person(kind, 1);
            for (int of = 0; of < 4; of++) {
                due.is("8 KIND " + kind + " is of " + of, x.isOf(0, of), is[kind].charAt(of) - '0');
            }
            due.is("8 no KIND 4", x.isOf(0, 4), BAD);
            due.is("8 no KIND -1", x.isOf(0, -1), BAD);
            due.is("8 no PERSON 1", x.isOf(1, kind), BAD);
            due.is("8 no PERSON -1", x.isOf(-1, kind), BAD);
        }
    }

    /** "each TRACK is OWNED by one at most"; "NO: another one OWNS it." */
    private static void ownedByOneAtMost() {
        SwingDesk x = people(3, 0);
        due.is("9 the first OWNER", x.own(1, 4), NONE);
        due.is("9 another one, lesser", x.own(0, 4), NO);
        due.is("9 another one, greater", x.own(2, 4), NO);
        due.is("9 the OWNER again", x.own(1, 4), 4);
        due.is("9 one is OWNED", x.count(5), 1);
        due.is("9 the others OWN nothing", x.own(0, NONE), NONE);
        due.is("9 the OWNER still", x.own(1, NONE), 4);
        due.is("9 none is OWNED", x.count(5), 0);
        due.is("9 it is free", x.own(0, 4), NONE);
        due.is("9 NO for the old OWNER", x.own(1, 4), NO);
    }

    /** "A PERSON may OWN one TRACK"; "(NONE: none): which they did (NONE)" */
    private static void ownsOneAtMost() {
        SwingDesk x = people(2, 0);
        due.is("9 none, of none", x.own(0, NONE), NONE);
        due.is("9 the first", x.own(0, 0), NONE);
        due.is("9 the second", x.own(0, 1), 0);
        due.is("9 one alone", x.count(5), 1);
        due.is("9 the first is free", x.own(1, 0), NONE);
        due.is("9 NO keeps what they OWN", x.own(0, 0), NO);
        due.is("9 it is the second", x.own(0, 2), 1);
        due.is("9 two are OWNED", x.count(5), 2);
    }

    private static void ownOfTheLast() {
        SwingDesk x = people(10, 0);
        due.is("9 the last of both", x.own(9, 7), NONE);
        due.is("9 no TRACK 8", x.own(9, 8), BAD);
        due.is("9 no TRACK -1", x.own(9, -1), BAD);
        due.is("9 beside NONE", x.own(9, NONE + 1), BAD);
        due.is("9 no PERSON 10", x.own(10, 7), BAD);
        due.is("9 no PERSON -1", x.own(-1, 7), BAD);
        due.is("9 no PERSON 10, none", x.own(10, NONE), BAD);
        due.is("9 as it was", x.own(9, 7), 7);
        for (int track = 0; track < 7; track++) {
            due.is("9 each", x.own(track, track), NONE);
        }
        due.is("9 all are OWNED", x.count(5), 8);
        due.is("9 one who OWNS none", x.own(8, 0), NO);
    }

    /** "A PERSON KNOWS a TRACK from the day on which they learnt it": also from day 0. */
    private static void learntOnTheFirstDay() {
        SwingDesk x = people(1, 0);
        due.is("11 not KNOWN yet", x.fresh(0, 0), NO);
        due.is("10 learnt on day 0", x.did(0, 0), NONE);
        due.is("11 KNOWN from that day on", x.fresh(0, 0), 1);
        due.is("10 0 days since", x.did(0, 0), 0);
        pass(x, 400);
        due.is("11 KNOWN for ever, FRESH no more", x.fresh(0, 0), 0);
        due.is("10 400 days since", x.did(0, 0), 400);
        due.is("10 then 0", x.did(0, 0), 0);
        due.is("10 another TRACK was not KNOWN", x.did(0, 1), NONE);
    }

    private static void learntOnTheLastDay() {
        SwingDesk x = people(1, 0);
        pass(x, 400);
        due.is("11 not KNOWN yet", x.fresh(0, 0), NO);
        due.is("10 learnt on day 400", x.did(0, 0), NONE);
        due.is("11 KNOWN", x.fresh(0, 0), 1);
        due.is("10 0 days since", x.did(0, 0), 0);
    }

    /** "BAD": the last PERSON and the last TRACK are not beside the first ones. */
    private static void didOfTheLast() {
        SwingDesk x = people(10, 0);
        due.is("10 the last TRACK of the first", x.did(0, 7), NONE);
        due.is("10 the first TRACK of the second", x.did(1, 0), NONE);
        due.is("10 the last of both", x.did(9, 7), NONE);
        due.is("10 no TRACK 8", x.did(0, 8), BAD);
        due.is("10 no TRACK -1", x.did(1, -1), BAD);
        due.is("10 no PERSON 10", x.did(10, 0), BAD);
        due.is("10 no PERSON -1", x.did(-1, 7), BAD);
        for (int person = 0; person < 10; person++) {
            for (int track = 0; track < 8; track++) {
                int at = person * 8 + track;
                boolean known = at == 7 || at == 8 || at == 79;
                due.is("11 " + person + " for " + track, x.fresh(person, track), known ? 1 : NO);
            }
        }
        due.is("11 no TRACK 8", x.fresh(0, 8), BAD);
        due.is("11 no PERSON 10", x.fresh(10, 0), BAD);
    }

    private static void freshAfter(String what, int kind, int days, int want) {
        SwingDesk x = people(1, kind);
        x.days(3);
        x.did(0, 0);
        pass(x, days);
        due.is("11 " + what + " after " + days, x.fresh(0, 0), want);
        due.is("10 " + what + " after " + days, x.did(0, 0), days);
        due.is("11 " + what + ", did it again", x.fresh(0, 0), 1);
    }

    /** "if TODAY less the day on which they DID it last is below 30" */
    private static void freshBelowThirty() {
        for (int kind = 0; kind < 2; kind++) {
            freshAfter("KIND " + kind, kind, 0, 1);
            freshAfter("KIND " + kind, kind, 29, 1);
            freshAfter("KIND " + kind, kind, 30, 0);
            freshAfter("KIND " + kind, kind, 60, 0);
            freshAfter("KIND " + kind, kind, 397, 0);
        }
    }

    /** "(below 60, of SWINGS)" */
    private static void freshBelowSixtyOfSwings() {
        for (int kind = 2; kind < 4; kind++) {
            freshAfter("KIND " + kind, kind, 30, 1);
            freshAfter("KIND " + kind, kind, 59, 1);
            freshAfter("KIND " + kind, kind, 60, 0);
            freshAfter("KIND " + kind, kind, 397, 0);
        }
    }

    /** "NO: they do not KNOW it." */
    private static void freshOfUnknown() {
        SwingDesk x = people(2, 3);
        x.did(0, 3);
        x.own(1, 3);
        due.is("11 another one KNOWS it", x.fresh(1, 3), NO);
        due.is("11 the one beside", x.fresh(0, 2), NO);
        due.is("11 the other beside", x.fresh(0, 4), NO);
        pass(x, 60);
        due.is("11 not FRESH is not NO", x.fresh(0, 3), 0);
        due.is("11 NO stays NO", x.fresh(1, 3), NO);
    }

    /** "FRESH for 30 days (that day and the 29 next ones)"; "days since they were last (NONE)" */
    private static void rehearsedForThirtyDays() {
        int[][] after = {{0, 1}, {1, 1}, {29, 1}, {30, 0}, {31, 0}, {59, 0}, {60, 0}, {400, 0}};
        for (int[] a : after) {
            SwingDesk x = people(2, 3);
            due.is("12 never before", x.rehearse(0, 1), NONE);
            pass(x, a[0]);
            due.is("12 FRESH after " + a[0], x.count(7), a[1]);
            due.is("12 days since", x.rehearse(0, 1), a[0]);
            due.is("12 FRESH anew", x.count(7), 1);
            due.is("12 TODAY", x.rehearse(0, 1), 0);
        }
    }

    /** "a pair of PEOPLE for LIFTS (the first lifts the second)" */
    private static void rehearsedOneWay() {
        SwingDesk x = people(3, 0);
        due.is("12 one way", x.rehearse(0, 1), NONE);
        x.days(10);
        due.is("12 the other way", x.rehearse(1, 0), NONE);
        due.is("27 two pairs", x.count(7), 2);
        x.days(19);
        due.is("27 both on day 29", x.count(7), 2);
        x.days(1);
        due.is("27 one on day 30", x.count(7), 1);
        due.is("12 since day 10", x.rehearse(1, 0), 20);
        due.is("12 since day 0", x.rehearse(0, 1), 30);
    }

    /** "BAD: also if they are one." */
    private static void rehearsedOfTheLast() {
        SwingDesk x = people(10, 0);
        for (int person = 0; person < 10; person++) {
            due.is("12 they are one", x.rehearse(person, person), BAD);
            due.is("12 no PERSON 10", x.rehearse(person, 10), BAD);
            due.is("12 no PERSON -1", x.rehearse(person, -1), BAD);
            due.is("12 the first is no PERSON", x.rehearse(10, person), BAD);
        }
        due.is("12 nobody is one with himself", x.rehearse(10, 10), BAD);
        due.is("12 none by these", x.count(7), 0);
        due.is("12 the first and the last", x.rehearse(0, 9), NONE);
        due.is("12 the next and the first", x.rehearse(1, 0), NONE);
        due.is("12 the last two", x.rehearse(9, 8), NONE);
        due.is("27 three", x.count(7), 3);
        due.is("12 again", x.rehearse(0, 9), 0);
        due.is("12 not the other way", x.rehearse(9, 0), NONE);
    }

    /** "FEUDS are of two PEOPLE (both ways)"; "is (on 1) or not (0): what it was" */
    private static void feudsBothWays() {
        SwingDesk x = people(10, 0);
        due.is("13 not on", x.feud(0, 9, 0), 0);
        due.is("13 on", x.feud(0, 9, 1), 0);
        due.is("13 on again", x.feud(0, 9, 1), 1);
        due.is("13 on, the other way", x.feud(9, 0, 1), 1);
        due.is("27 one pair", x.count(6), 1);
        due.is("13 no on 2", x.feud(0, 9, 2), BAD);
        due.is("13 no on -1", x.feud(0, 9, -1), BAD);
        due.is("13 no PERSON 10", x.feud(0, 10, 1), BAD);
        due.is("13 no PERSON -1", x.feud(-1, 9, 0), BAD);
        due.is("13 they are one, on", x.feud(9, 9, 1), BAD);
        due.is("13 they are one, off", x.feud(0, 0, 0), BAD);
        due.is("27 one pair still", x.count(6), 1);
        due.is("13 off, the other way", x.feud(9, 0, 0), 1);
        due.is("13 it was off", x.feud(0, 9, 0), 0);
        due.is("13 it was off, the other way", x.feud(9, 0, 0), 0);
        due.is("27 no pair", x.count(6), 0);
        due.is("13 on again, the other way", x.feud(9, 0, 1), 0);
        due.is("13 off again, the other way", x.feud(9, 0, 0), 1);
        due.is("13 it was off, asked at once", x.feud(9, 0, 1), 0);
        due.is("13 off, this way", x.feud(0, 9, 0), 1);
        due.is("13 it was off, asked at once this way", x.feud(0, 9, 0), 0);
    }

    private static void feudsOfAll() {
        SwingDesk x = people(10, 0);
        int pairs = 0;
        for (int person = 0; person < 10; person++) {
            for (int other = 0; other < 10; other++) {
                int was = other < person ? 1 : 0;
                due.is("13 " + person + " with " + other, x.feud(person, other, 1), person == other ? BAD : was);
                pairs += other > person ? 1 : 0;
                due.is("27 pairs", x.count(6), pairs);
            }
        }
        due.is("27 all of them", x.count(6), 45);
        due.is("13 one ends", x.feud(4, 5, 0), 1);
        due.is("27 one less", x.count(6), 44);
        due.is("13 the others stay", x.feud(5, 6, 1), 1);
    }

    /** "n (1 .. 60) DAYS go: TODAY" */
    private static void oneToSixtyDays() {
        SwingDesk x = new SwingDesk();
        due.is("14 TODAY is 0 at first", x.count(3), 0);
        due.is("14 no days", x.days(0), BAD);
        due.is("14 one back", x.days(-1), BAD);
        due.is("14 sixty-one", x.days(61), BAD);
        due.is("14 TODAY is 0 still", x.count(3), 0);
        due.is("14 one", x.days(1), 1);
        due.is("14 sixty", x.days(60), 61);
        due.is("14 as many as there are", x.days(Due.MOST), BAD);
        due.is("14 wrapped around", x.days(Due.LEAST), BAD);
        due.is("14 TODAY", x.count(3), 61);
    }

    /** "BAD: also if it would be above 400." */
    private static void fourHundredDays() {
        SwingDesk x = new SwingDesk();
        pass(x, 340);
        due.is("14 340 and 60", x.days(60), 400);
        due.is("14 400 and 1", x.days(1), BAD);
        due.is("14 400 and 60", x.days(60), BAD);
        due.is("14 TODAY is 400", x.count(3), 400);
        SwingDesk y = new SwingDesk();
        pass(y, 341);
        due.is("14 341 and 60", y.days(60), BAD);
        due.is("14 TODAY is 341", y.count(3), 341);
        due.is("14 341 and 59", y.days(59), 400);
        SwingDesk z = new SwingDesk();
        pass(z, 399);
        due.is("14 399 and 2", z.days(2), BAD);
        due.is("14 399 and 1", z.days(1), 400);
    }

    private static void fourHundredByOnes() {
        SwingDesk x = new SwingDesk();
        for (int day = 1; day <= 400; day++) {
            due.is("14 one by one", x.days(1), day);
        }
        due.is("14 no day 401", x.days(1), BAD);
        due.is("27 TODAY", x.count(3), 400);
    }

    private static SwingDesk onDay(int day) {
        SwingDesk x = people(3, 2);
        for (int track = 0; track < 8; track++) {
            x.in(track, 5, track, 0);
        }
        pass(x, day);
        x.own(0, 0);
        x.did(1, 1);
        x.out(1, 29);
        x.out(2, 0);
        x.cast(30000);
        x.hurt(0, 6);
        return x;
    }

    /** "(nobody is OUT then, there is no CAST)", and neither by a call that is refused. */
    private static void newNight() {
        SwingDesk x = onDay(0);
        due.is("14 three are OUT", x.count(4), 3);
        due.is("14 one day", x.days(1), 1);
        due.is("14 nobody is OUT", x.count(4), 0);
        for (int person = 0; person < 3; person++) {
            due.is("14 from no CUE on", x.out(person, 30), 30);
        }
        due.is("14 no CAST: has", x.has(0), NONE);
        due.is("14 no CAST: who", x.who(5), NO);
        due.is("14 no CAST: at", x.at(0, 0), NO);
        due.is("14 no CAST: hurt", x.hurt(0, 0), NO);
        due.is("14 OWNERS stay", x.own(0, 0), 0);
        Twins last = new Twins(due, () -> onDay(400));
        last.keeps("14 on the last day", d -> d.days(1), BAD);
        Twins first = new Twins(due, () -> onDay(0));
        first.keeps("14 no days", d -> d.days(0), BAD);
        first.keeps("14 too many", d -> d.days(61), BAD);
        first.changes("14 sixty", d -> d.days(60), 60);
    }

    /** "An object is used for at most 512 calls after it has been made": the 512th is answered as all others. */
    private static void lastCallOfAnObject() {
        SwingDesk x = new SwingDesk();
        x.track(5);
        x.person(0, 5);
        x.did(0, 0);
        for (int call = 4; call <= 511; call++) {
            due.is("10 call " + call, x.did(0, 0), 0);
        }
        due.is("11 the last call", x.fresh(0, 0), 1);
    }
}
