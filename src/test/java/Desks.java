/** Desks that several tests start from, each made by the same calls every time. */
final class Desks {
    private Desks() {
    }

    /** Two TRACKS, three PEOPLE, a LIFT, SHEET 1 of two places, SHEET 0 MISSING, no CAST yet, day 5. */
    static SwingDesk small() {
        SwingDesk x = Due.desk(2, 5);
        Due.people(x, 3, 2, 5);
        x.did(2, 1);
        x.days(5);
        x.in(0, 4, 1, 1);
        x.in(1, 4, 8, 0);
        x.in(1, 5, 2, 1);
        x.lift(4, 0, 1);
        x.own(0, 0);
        x.own(1, 1);
        x.did(2, 0);
        x.rehearse(0, 1);
        x.feud(1, 2, 1);
        x.out(1, 7);
        x.sheet(1, 2);
        x.mark(1, 0, 3);
        x.mark(1, 1, -1);
        return x;
    }

    /** As many TRACKS and PEOPLE as there can be, a CAST, one PERSON HURT in it, both SHEETS, day 13. */
    static SwingDesk full() {
        SwingDesk x = new SwingDesk();
        for (int track = 0; track < 8; track++) {
            x.track(4 + track % 3);
            x.in(track, 5, track, track % 2);
            x.in(track, 20 + track, 9 - track, 1);
        }
        for (int person = 0; person < 10; person++) {
            x.person(person % 4, 5);
        }
        for (int track = 0; track < 8; track++) {
            x.own(track, track);
        }
        for (int track = 0; track < 8; track += 2) {
            x.did(track + 1, track);
        }
        x.lift(5, 1, 2);
        x.rehearse(1, 2);
        x.rehearse(9, 0);
        x.days(9);
        x.did(8, 0);
        x.did(9, 7);
        x.rehearse(2, 7);
        x.days(4);
        x.feud(0, 9, 1);
        x.feud(3, 4, 1);
        fillSheets(x);
        x.out(4, 28);
        x.cast(30000);
        x.hurt(0, 20);
        return x;
    }

    private static void fillSheets(SwingDesk x) {
        x.sheet(0, 30);
        x.sheet(1, 3);
        for (int place = 0; place < 3; place++) {
            x.mark(0, place, 7 + place);
            x.mark(1, place, 125 + place);
        }
        x.mark(0, 29, -5);
    }
}
