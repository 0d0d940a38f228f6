/** Promises 15 to 19: how boats fare in a night, who meets whom, whom to wake, hours that truly pass. */
public final class NightTest {
    private static final Due due = new Due();

    public static void main(String[] args) {
        drags();
        ways();
        pullHasToBeAbovePower();
        ploughs();
        rocked();
        liesWithin();
        refusalsOfNight();
        fleet();
        meetings();
        wake();
        wakeOfLaterMeetings();
        goOn();
        due.end();
    }

    private static void night(AnchorThatDrags x, int n, int i, int cell, int dragged, int first, int lies) {
        String call = "night(" + n + ", " + i + ", ";
        due.is(call + "0)", x.night(n, i, 0), cell);
        due.is(call + "1)", x.night(n, i, 1), dragged);
        due.is(call + "2)", x.night(n, i, 2), first);
        due.is(call + "3)", x.night(n, i, 3), lies);
    }

    private static void drags() {
        AnchorThatDrags x = new AnchorThatDrags();
        x.boat(0, 500, 44, 20);
        night(x, 0, 0, 44, 0, -1, -1);
        night(x, 1, 0, 54, 1, 0, 84);
        night(x, 3, 0, 74, 3, 0, 94);
        night(x, 5, 0, 94, 5, 0, 94);
        night(x, 6, 0, -1, 6, 0, -1);
        night(x, 12, 0, -1, 6, 0, -1);
        due.is("boatTold(0, 4)", x.boatTold(0, 4), 44);
        due.is("count(0)", x.count(0), 0);
        // the cell that it drags to may hold it
        x.sound(64, 0, 0);
        x.sound(64, 1, 0);
        Due.text(x, "pull 50;hold 60-(deep=5)*20;jerk 0;");
        x.force(1);
        night(x, 12, 0, 64, 2, 0, 94);
        x.goOn(1);
        night(x, 3, 0, 64, 1, 1, 94);
        night(x, 0, 0, 54, 0, -1, -1);
        x.goOn(1);
        night(x, 3, 0, 64, 0, -1, 94);
    }

    private static void ways() {
        int[] to = {54, 55, 45, 35, 34, 33, 43, 53};
        for (int way = 0; way < 8; way++) {
            AnchorThatDrags x = new AnchorThatDrags();
            x.boat(0, 500, 44, 5);
            x.blow(0, 0, way);
            due.is("one on by " + way, x.night(1, 0, 0), to[way]);
            x.let(0, 0, way == 0 || way == 1 || way == 7 ? 94 : way > 4 ? 40 : way == 2 ? 49 : 4);
            due.is("gone by " + way, x.night(1, 0, 0), -1);
            x.let(0, 0, 44);
            x.let(0, 1, 12);
            x.blow(0, 1, 0);
            due.is("lies by " + way, x.night(1, 0, 3), 44 + 2 * (to[way] - 44));
        }
        // no cell follows the last of a row
        AnchorThatDrags y = new AnchorThatDrags();
        y.boat(0, 500, 49, 40);
        y.blow(0, 0, 2);
        due.is("off a row's end", y.night(1, 0, 0), -1);
        y.let(0, 0, 50);
        y.blow(0, 0, 6);
        due.is("off a row's start", y.night(1, 0, 0), -1);
    }

    private static void pullHasToBeAbovePower() {
        AnchorThatDrags x = Due.under("pull 50;hold heavy*10;jerk 0;");
        x.boat(0, 50, 44, 20);
        x.boat(0, 40, 44, 20);
        due.is("PULL as POWER", x.night(1, 0, 1), 0);
        due.is("PULL above POWER", x.night(1, 1, 1), 1);
    }

    private static void ploughs() {
        AnchorThatDrags x = new AnchorThatDrags();
        x.boat(2, 500, 4, 20);
        night(x, 1, 0, 4, 0, -1, 34);
        night(x, 2, 0, 14, 1, 1, 44);
        night(x, 4, 0, 24, 2, 1, 54);
        night(x, 12, 0, 64, 6, 1, 94);
        x.goOn(3);
        night(x, 1, 0, 24, 1, 3, 54);
        AnchorThatDrags y = new AnchorThatDrags();
        for (int kind = 0; kind < 6; kind++) {
            y.boat(kind, 990, 4, 20);
        }
        y.blow(0, 1, 99);
        for (int kind = 0; kind < 6; kind++) {
            due.is("kind " + kind + " in HOUR 0", y.night(1, kind, 1), kind == 2 ? 0 : 1);
        }
    }

    private static void rocked() {
        AnchorThatDrags x = new AnchorThatDrags();
        for (int more = 0; more < 5; more++) {
            x.boat(4, more, 44, 5);
        }
        x.boat(1, 0, 44, 5);
        // turns: none, 0, 1 (0 to 7), 2 (7 to 1), 3 (1 to 6), 4 (6 to 2), 0 ..
        int[] way = {0, 0, 7, 1, 6, 2, 2, 2, 2, 2, 2, 2};
        for (int h = 0; h < 12; h++) {
            x.blow(h, 0, way[h]);
        }
        due.is("MORE 0 drags", x.night(12, 0, 1), 4);
        due.is("MORE 0 first", x.night(12, 0, 2), 2);
        due.is("MORE 0 goes", x.night(3, 0, 0), 53);
        due.is("MORE 1 drags", x.night(12, 1, 1), 3);
        due.is("MORE 1 first", x.night(12, 1, 2), 3);
        due.is("MORE 2 drags", x.night(12, 2, 1), 2);
        due.is("MORE 2 first", x.night(12, 2, 2), 4);
        due.is("MORE 3 drags", x.night(12, 3, 1), 1);
        due.is("MORE 3 first", x.night(12, 3, 2), 5);
        due.is("MORE 4 drags", x.night(12, 4, 1), 0);
        due.is("a DUG drags", x.night(12, 5, 1), 0);
        // a turn into the hour that is now counts, one into HOUR 0 never
        x.goOn(5);
        due.is("MORE 3 in HOUR 5", x.night(1, 3, 1), 1);
        AnchorThatDrags y = new AnchorThatDrags();
        y.boat(4, 0, 44, 5);
        y.blow(0, 0, 4);
        due.is("MORE 0 in HOUR 0", y.night(1, 0, 1), 0);
        due.is("MORE 0 in HOUR 1", y.night(2, 0, 1), 1);
        // in HOUR 11, too
        AnchorThatDrags z = new AnchorThatDrags();
        z.boat(4, 1, 44, 5);
        z.blow(11, 0, 2);
        due.is("MORE 1 in HOUR 11", z.night(12, 0, 2), 11);
        // pulled hard it drags as a DUG
        y.blow(1, 0, 4);
        y.let(0, 1, 15);
        Due.text(y, "pull 91;hold 60;jerk 0;");
        Due.text(y, "pull 90;hold 60;jerk 0;");
        y.force(1);
        due.is("pulled 91", y.night(1, 0, 1), 1);
        y.force(2);
        due.is("pulled 90", y.night(1, 0, 1), 0);
    }

    private static void liesWithin() {
        AnchorThatDrags x = new AnchorThatDrags();
        x.boat(0, 0, 66, 40);
        int[] lies = {96, 99, 69, 39, 6, 0, 60, 93};
        for (int way = 0; way < 8; way++) {
            x.blow(0, 0, way);
            due.is("lies by " + way, x.night(1, 0, 3), lies[way]);
        }
        x.blow(0, 0, 4);
        x.let(0, 0, 96);
        due.is("lies 7 off", x.night(1, 0, 3), 26);
        x.blow(0, 2, -3);
        x.sound(96, 0, 0);
        due.is("lies 8 off", x.night(1, 0, 3), 16);
    }

    private static void refusalsOfNight() {
        AnchorThatDrags x = new AnchorThatDrags();
        x.boat(0, 0, 44, 5);
        due.is("night(13, 0, 0)", x.night(13, 0, 0), -7);
        due.is("night(-1, 0, 0)", x.night(-1, 0, 0), -7);
        due.is("night(1, 0, 4)", x.night(1, 0, 4), -7);
        due.is("night(1, 0, -1)", x.night(1, 0, -1), -7);
        due.is("night(13, 1, 4)", x.night(13, 1, 4), -5);
        due.is("night(1, -1, 0)", x.night(1, -1, 0), -5);
        x.goOn(4);
        due.is("night(8, 0, 0)", x.night(8, 0, 0), 44);
        due.is("night(9, 0, 0)", x.night(9, 0, 0), -7);
        AnchorThatDrags y = new AnchorThatDrags();
        y.boat(0, 900, 94, 5);
        y.goOn(1);
        night(y, 5, 0, -1, 0, -1, -1);
        night(y, 0, 0, -1, 0, -1, -1);
    }

    private static void fleet() {
        AnchorThatDrags x = new AnchorThatDrags();
        x.boat(0, 0, 0, 5);
        x.boat(2, 900, 3, 5);
        x.boat(2, 900, 95, 5);
        x.boat(3, 100, 97, 5);
        x.boat(0, 900, 99, 5);
        due.is("fleet(0, 0)", x.fleet(0, 0), -1);
        due.is("fleet(0, 1)", x.fleet(0, 1), -1);
        due.is("fleet(0, 2)", x.fleet(0, 2), 0);
        due.is("fleet(0, 3)", x.fleet(0, 3), 0);
        due.is("fleet(1, 0)", x.fleet(1, 0), 3);
        due.is("fleet(1, 1)", x.fleet(1, 1), 0);
        due.is("fleet(1, 3)", x.fleet(1, 3), 2);
        due.is("fleet(2, 3)", x.fleet(2, 3), 3);
        due.is("fleet(12, 3)", x.fleet(12, 3), 3);
        x.goOn(1);
        due.is("fleet(3, 0)", x.fleet(3, 0), 1);
        due.is("fleet(3, 1)", x.fleet(3, 1), 1);
        due.is("fleet(3, 3), two being gone", x.fleet(3, 3), 1);
        due.is("fleet(11, 0)", x.fleet(11, 0), 1);
        due.is("fleet(12, 0)", x.fleet(12, 0), -2);
        due.is("fleet(-1, 0)", x.fleet(-1, 0), -2);
        due.is("fleet(1, 4)", x.fleet(1, 4), -2);
        due.is("fleet(1, -1)", x.fleet(1, -1), -2);
        x.boat(0, 0, 44, 5);
        due.is("fleet(11, 0) of six", x.fleet(11, 0), 1);
        // an earlier hour goes ahead of a lesser number
        AnchorThatDrags y = new AnchorThatDrags();
        y.boat(2, 900, 3, 5);
        y.boat(0, 900, 5, 5);
        due.is("fleet(2, 0)", y.fleet(2, 0), 1);
        due.is("fleet(2, 1)", y.fleet(2, 1), 0);
    }

    private static void hit(AnchorThatDrags x, int n, int k, int hour, int one, int other) {
        String call = "hit(" + n + ", " + k + ", ";
        due.is(call + "0)", x.hit(n, k, 0), hour);
        due.is(call + "1)", x.hit(n, k, 1), one);
        due.is(call + "2)", x.hit(n, k, 2), other);
    }

    private static void meetings() {
        AnchorThatDrags x = new AnchorThatDrags();
        // by WAY 0 all but boat 1 lie in 64; by WAY 4 none in one
        x.boat(0, 0, 44, 12);
        x.boat(0, 0, 0, 5);
        x.boat(0, 0, 54, 11);
        x.boat(0, 0, 64, 5);
        for (int h = 3; h < 12; h++) {
            x.blow(h, 0, 4);
        }
        hit(x, 12, 0, 0, 0, 2);
        due.is("fleet(12, 2)", x.fleet(12, 2), 9);
        due.is("fleet(2, 2)", x.fleet(2, 2), 6);
        hit(x, 12, 0, 0, 0, 2);
        hit(x, 12, 1, 0, 0, 3);
        hit(x, 12, 2, 0, 2, 3);
        hit(x, 12, 3, 1, 0, 2);
        hit(x, 12, 8, 2, 2, 3);
        due.is("hit(12, 9, 0)", x.hit(12, 9, 0), -1);
        due.is("hit(12, -1, 0)", x.hit(12, -1, 0), -1);
        due.is("hit(2, 6, 0)", x.hit(2, 6, 0), -1);
        due.is("hit(0, 0, 0)", x.hit(0, 0, 0), -1);
        due.is("hit(13, 99, 0)", x.hit(13, 99, 0), -2);
        due.is("hit(-1, 0, 0)", x.hit(-1, 0, 0), -2);
        due.is("hit(12, 0, 3)", x.hit(12, 0, 3), -2);
        due.is("hit(12, 99, -1)", x.hit(12, 99, -1), -2);
        x.goOn(1);
        hit(x, 11, 0, 1, 0, 2);
        due.is("hit(12, 0, 0)", x.hit(12, 0, 0), -2);
        // two that are gone don't meet, and who drags meets by where its anchor is then
        AnchorThatDrags y = new AnchorThatDrags();
        y.boat(0, 900, 84, 5);
        y.boat(0, 900, 84, 5);
        y.boat(0, 0, 94, 5);
        due.is("fleet(12, 2)", y.fleet(12, 2), 3);
        hit(y, 12, 0, 0, 0, 1);
        hit(y, 12, 1, 0, 0, 2);
        hit(y, 12, 2, 0, 1, 2);
        // six in one cell meet 15 times an hour
        AnchorThatDrags z = new AnchorThatDrags();
        for (int i = 0; i < 6; i++) {
            z.boat(0, 0, 44, 5);
        }
        due.is("fleet(12, 2)", z.fleet(12, 2), 180);
        hit(z, 12, 179, 11, 4, 5);
        hit(z, 12, 4, 0, 0, 5);
        hit(z, 12, 5, 0, 1, 2);
        hit(z, 12, 15, 1, 0, 1);
    }

    private static void wake() {
        AnchorThatDrags x = new AnchorThatDrags();
        due.is("wake(12) of none", x.wake(12), -1);
        x.boat(0, 0, 44, 5);
        x.boat(0, 900, 34, 5);
        x.boat(0, 0, 44, 5);
        due.is("wake(0)", x.wake(0), -1);
        due.is("wake(1)", x.wake(1), 1);
        due.is("wake(13)", x.wake(13), -2);
        due.is("wake(-1)", x.wake(-1), -2);
        x.let(1, 0, 14);
        due.is("wake(12) of like ones", x.wake(12), 0);
        x.let(0, 0, 0);
        x.let(2, 0, 24);
        due.is("wake(1) of the other", x.wake(1), 1);
        // the lesser, if it has dragged more
        AnchorThatDrags y = new AnchorThatDrags();
        y.boat(0, 900, 34, 5);
        y.boat(0, 0, 44, 5);
        due.is("wake(1) of the lesser", y.wake(1), 0);
        // the first meeting counts, and how often each has dragged in all the hours
        AnchorThatDrags z = new AnchorThatDrags();
        z.boat(0, 0, 11, 5);
        z.boat(0, 0, 11, 5);
        z.blow(1, 1, 99);
        z.boat(0, 500, 19, 5);
        Due.text(z, "pull (wind=99)*(heavy=1)*99;hold 60;jerk 0;");
        z.force(1);
        z.boat(0, 10, 44, 5);
        due.is("wake(2)", z.wake(2), 0);
        z.let(1, 0, 50);
        z.let(2, 0, 44);
        due.is("wake(1)", z.wake(1), 2);
        due.is("wake(2) with what comes later", z.wake(2), 3);
    }

    /** The first meeting may come in any hour, and be of any two. */
    private static void wakeOfLaterMeetings() {
        AnchorThatDrags x = new AnchorThatDrags();
        for (int i = 0; i < 3; i++) {
            x.boat(0, 0, i, 5);
        }
        x.boat(0, 0, 44, 12);
        x.boat(0, 0, 64, 5);
        x.blow(0, 0, 1);
        due.is("wake(1), none", x.wake(1), -1);
        due.is("hit(12, 0, 0)", x.hit(12, 0, 0), 1);
        due.is("wake(12) of 3 and 4", x.wake(12), 3);
    }

    private static void goOn() {
        AnchorThatDrags x = new AnchorThatDrags();
        x.boat(0, 500, 44, 20);
        x.boat(2, 500, 44, 20);
        x.boat(0, 0, 44, 20);
        x.boat(0, 500, 84, 20);
        due.is("goOn(0)", x.goOn(0), 0);
        due.is("boatTold(0, 4)", x.boatTold(0, 4), 44);
        due.is("goOn(2)", x.goOn(2), 2);
        due.is("boatTold(0, 4)", x.boatTold(0, 4), 64);
        due.is("boatTold(1, 4)", x.boatTold(1, 4), 54);
        due.is("boatTold(2, 4)", x.boatTold(2, 4), 44);
        due.is("boatTold(3, 4)", x.boatTold(3, 4), -1);
        due.is("count(1)", x.count(1), 4);
        due.is("goOn(-1)", x.goOn(-1), -2);
        due.is("goOn(10)", x.goOn(10), -2);
        due.is("goOn(11)", x.goOn(11), -2);
        due.is("goOn(MAX)", x.goOn(Integer.MAX_VALUE), -2);
        due.is("count(0)", x.count(0), 2);
        due.is("boatTold(0, 4)", x.boatTold(0, 4), 64);
        due.is("goOn(9)", x.goOn(9), 11);
        due.is("goOn(1)", x.goOn(1), -2);
        due.is("goOn(0)", x.goOn(0), 11);
        due.is("night(1, 2, 0)", x.night(1, 2, 0), 44);
        due.is("night(2, 2, 0)", x.night(2, 2, 0), -7);
    }
}
