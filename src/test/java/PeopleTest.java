/** Promises 7 to 14: person, isOf, own, did, fresh, rehearse, feud, days. */
public final class PeopleTest {
    private static final Due due = new Due();
    private static final int BAD = Due.BAD, NO = Due.NO, FULL = Due.FULL, NONE = Due.NONE;

    public static void main(String[] args) {
        persons();
        kinds();
        owns();
        dids();
        freshes();
        rehearses();
        feuds();
        daysGo();
        due.end();
    }

    private static void persons() {
        SwingDesk x = new SwingDesk();
        int[][] bad = {{-1, 5}, {4, 5}, {0, 0}, {0, 10}, {0, -1}, {NONE, 5}, {Due.MOST, 5}, {0, Due.LEAST}};
        for (int[] b : bad) {
            due.is("7 person" + java.util.Arrays.toString(b), x.person(b[0], b[1]), BAD);
        }
        for (int i = 0; i < 10; i++) {
            due.is("7 person", x.person(i % 4, i % 9 + 1), i);
        }
        due.is("7 an eleventh", x.person(0, 5), FULL);
        due.is("7 BAD stands ahead of FULL", x.person(4, 5), BAD);
        due.is("7 ten", x.count(1), 10);
    }

    private static void kinds() {
        SwingDesk x = new SwingDesk();
        for (int kind = 0; kind < 4; kind++) {
            x.person(kind, 5);
        }
        int[][] is = {{1, 0, 0, 0}, {1, 1, 0, 0}, {1, 0, 1, 0}, {1, 0, 1, 1}};
        for (int person = 0; person < 4; person++) {
            for (int kind = 0; kind < 4; kind++) {
                due.is("8 isOf(" + person + ", " + kind + ")", x.isOf(person, kind), is[person][kind]);
            }
        }
        int[][] bad = {{4, 0}, {-1, 0}, {NONE, 0}, {0, 4}, {0, -1}, {0, NONE}, {Due.MOST, 0}};
        for (int[] b : bad) {
            due.is("8 isOf" + java.util.Arrays.toString(b), x.isOf(b[0], b[1]), BAD);
        }
    }

    private static void owns() {
        SwingDesk x = Due.desk(2, 5);
        Due.people(x, 2, 0, 9);
        due.is("9 first", x.own(0, 0), NONE);
        due.is("9 the same again", x.own(0, 0), 0);
        due.is("9 another one OWNS it", x.own(1, 0), NO);
        due.is("9 another TRACK", x.own(0, 1), 0);
        due.is("9 one alone", x.count(5), 1);
        due.is("9 which is free now", x.own(1, 0), NONE);
        due.is("9 NO changes nothing", x.own(1, 1), NO);
        due.is("9 none", x.own(1, NONE), 0);
        due.is("9 none again", x.own(1, NONE), NONE);
        due.is("9 one is left", x.count(5), 1);
        due.is("9 OWNING is not KNOWING", x.fresh(0, 1), NO);
        int[][] bad = {{2, 0}, {-1, 0}, {2, NONE}, {0, 2}, {0, -1}, {NONE, 0}, {2, 1}, {0, Due.MOST}};
        for (int[] b : bad) {
            due.is("9 own" + java.util.Arrays.toString(b), x.own(b[0], b[1]), BAD);
        }
    }

    private static void dids() {
        SwingDesk x = Due.desk(2, 5);
        Due.people(x, 2, 0, 9);
        due.is("10 learns", x.did(0, 0), NONE);
        due.is("10 again", x.did(0, 0), 0);
        x.days(7);
        due.is("10 a week", x.did(0, 0), 7);
        due.is("10 another TRACK", x.did(0, 1), NONE);
        due.is("10 another PERSON", x.did(1, 0), NONE);
        x.days(60);
        x.days(3);
        due.is("10 since the last time", x.did(0, 0), 63);
        due.is("10 TODAY", x.did(0, 0), 0);
        int[][] bad = {{2, 0}, {-1, 0}, {0, 2}, {0, -1}, {0, NONE}, {NONE, 0}, {Due.LEAST, Due.MOST}};
        for (int[] b : bad) {
            due.is("10 did" + java.util.Arrays.toString(b), x.did(b[0], b[1]), BAD);
        }
    }

    private static void freshes() {
        SwingDesk x = Due.desk(2, 5);
        for (int kind = 0; kind < 4; kind++) {
            x.person(kind, 5);
            due.is("11 not KNOWN", x.fresh(kind, 0), NO);
            x.did(kind, 0);
            due.is("11 learnt TODAY", x.fresh(kind, 0), 1);
            due.is("11 another TRACK", x.fresh(kind, 1), NO);
        }
        x.days(29);
        freshOfAll(x, "11 after 29", 1, 1);
        x.days(1);
        freshOfAll(x, "11 after 30", 0, 1);
        x.days(29);
        freshOfAll(x, "11 after 59", 0, 1);
        x.days(1);
        freshOfAll(x, "11 after 60", 0, 0);
        x.did(0, 0);
        due.is("11 did it again", x.fresh(0, 0), 1);
        due.is("11 of that PERSON alone", x.fresh(1, 0), 0);
        int[][] bad = {{4, 0}, {-1, 0}, {0, 2}, {0, -1}, {0, NONE}, {NONE, 0}, {Due.MOST, 0}};
        for (int[] b : bad) {
            due.is("11 fresh" + java.util.Arrays.toString(b), x.fresh(b[0], b[1]), BAD);
        }
    }

    private static void freshOfAll(SwingDesk x, String when, int players, int swings) {
        due.is(when + ", PLAYER", x.fresh(0, 0), players);
        due.is(when + ", LEAD", x.fresh(1, 0), players);
        due.is(when + ", SWING", x.fresh(2, 0), swings);
        due.is(when + ", CAPTAIN", x.fresh(3, 0), swings);
    }

    private static void rehearses() {
        SwingDesk x = Due.desk(0, 5);
        Due.people(x, 3, 2, 5);
        due.is("12 first", x.rehearse(0, 1), NONE);
        due.is("12 again", x.rehearse(0, 1), 0);
        due.is("12 the other way", x.rehearse(1, 0), NONE);
        due.is("12 two pairs, one each way", x.count(7), 2);
        x.days(29);
        due.is("12 FRESH on the last day", x.count(7), 2);
        due.is("12 days since", x.rehearse(1, 0), 29);
        x.days(1);
        due.is("12 FRESH no more, though SWINGS", x.count(7), 1);
        due.is("12 days since, when not FRESH", x.rehearse(0, 1), 30);
        due.is("12 FRESH anew", x.count(7), 2);
        int[][] bad = {{0, 0}, {2, 2}, {3, 3}, {0, 3}, {3, 0}, {-1, 0}, {0, -1}, {NONE, 0}, {0, NONE}, {0, Due.MOST}};
        for (int[] b : bad) {
            due.is("12 rehearse" + java.util.Arrays.toString(b), x.rehearse(b[0], b[1]), BAD);
        }
        due.is("12 nothing changed", x.count(7), 2);
    }

    private static void feuds() {
        SwingDesk x = Due.desk(0, 5);
        Due.people(x, 10, 0, 5);
        due.is("13 first", x.feud(0, 9, 1), 0);
        due.is("13 both ways", x.feud(9, 0, 1), 1);
        due.is("13 one pair", x.count(6), 1);
        due.is("13 off that was not on", x.feud(1, 2, 0), 0);
        due.is("13 another", x.feud(8, 9, 1), 0);
        due.is("13 two pairs", x.count(6), 2);
        due.is("13 off, the other way", x.feud(9, 0, 0), 1);
        due.is("13 was off", x.feud(0, 9, 0), 0);
        due.is("13 one is left", x.count(6), 1);
        int[][] bad = {{0, 0, 1}, {9, 9, 0}, {0, 10, 1}, {10, 0, 1}, {-1, 0, 1}, {0, -1, 0}, {0, 1, 2}, {0, 1, -1},
            {0, 1, NONE}, {NONE, 1, 1}, {8, 9, 2}};
        for (int[] b : bad) {
            due.is("13 feud" + java.util.Arrays.toString(b), x.feud(b[0], b[1], b[2]), BAD);
        }
        due.is("13 nothing changed", x.feud(8, 9, 1), 1);
        x.days(60);
        due.is("13 FEUDS last", x.count(6), 1);
    }

    private static void daysGo() {
        SwingDesk x = Due.desk(1, 5);
        Due.people(x, 2, 0, 5);
        x.own(0, 0);
        x.out(1, 3);
        x.cast(10);
        int[] bad = {0, 61, -1, NONE, Due.LEAST, Due.MOST};
        for (int n : bad) {
            due.is("14 days(" + n + ")", x.days(n), BAD);
        }
        due.is("14 a refused call keeps the CAST", x.has(0), 0);
        due.is("14 and who is OUT", x.count(4), 1);
        due.is("14 one", x.days(1), 1);
        due.is("14 nobody is OUT", x.count(4), 0);
        due.is("14 from no CUE on", x.out(1, 30), 30);
        due.is("14 no CAST", x.has(0), NONE);
        due.is("14 no HOLDERS", x.at(0, 0), NO);
        for (int i = 1; i <= 6; i++) {
            due.is("14 sixty", x.days(60), 1 + 60 * i);
        }
        due.is("14 above 400", x.days(40), BAD);
        due.is("14 above 400, sixty", x.days(60), BAD);
        due.is("14 TODAY stays", x.count(3), 361);
        due.is("14 to 400", x.days(39), 400);
        due.is("14 no more", x.days(1), BAD);
        due.is("14 TODAY is 400", x.count(3), 400);
    }
}
