/** Promises 28 to 31: what to do next, two anchors by their angle, turns that break one out. */
public final class NextTest {
    private static final Due due = new Due();

    public static void main(String[] args) {
        oneHour();
        someHours();
        letOut();
        ashore();
        refusalsOfNext();
        two();
        angle();
        turns();
        due.end();
    }

    private static void next(AnchorThatDrags x, int ahead, int act, int all) {
        due.is("next(0, " + ahead + ", 0)", x.next(0, ahead, 0), act);
        due.is("next(0, " + ahead + ", 1)", x.next(0, ahead, 1), all);
    }

    /** A boat at the cell, pulled so hard, held so well, in an hour whose scope is enough. */
    private static AnchorThatDrags pulled(int kind, int c, String pull, String hold) {
        AnchorThatDrags x = Due.under("pull " + pull + ";hold " + hold + ";jerk 0;");
        x.boat(kind, 0, c, 15);
        return x;
    }

    private static void oneHour() {
        next(pulled(0, 44, "100", "100"), 1, 0, 0);
        next(pulled(0, 44, "101", "100"), 1, 2, 2);
        next(pulled(0, 44, "140", "100"), 1, 2, 2);
        next(pulled(0, 44, "141", "100"), 1, 3, 4);
        next(pulled(0, 44, "150", "100"), 1, 3, 4);
        next(pulled(0, 44, "151", "100"), 1, 0, 5);
        next(pulled(0, 44, "999", "0"), 1, 0, 5);
        // what is added comes behind what the kind makes of hold
        next(pulled(3, 44, "75", "100"), 1, 3, 4);
        next(pulled(3, 44, "76", "100"), 1, 0, 5);
        next(pulled(1, 44, "200", "100"), 1, 3, 4);
        next(pulled(1, 44, "201", "100"), 1, 0, 5);
        next(pulled(2, 44, "999", "100"), 1, 0, 0);
        // and behind what too little out makes of it
        AnchorThatDrags x = Due.under("pull 100-(15<out+5)*0;hold 100;jerk 0;");
        x.boat(0, 0, 44, 3);
        // 20 and 50, 53 with OUT 8
        next(x, 1, 0, 5);
        x.let(0, 1, 8);
        // 53: with 13 out 86
        next(x, 1, 3, 4);
        x.let(0, 1, 10);
        next(x, 1, 1, 1);
    }

    private static void someHours() {
        // easing twice and strengthening once cost the same: the lesser act
        next(pulled(0, 44, "140", "100"), 2, 2, 4);
        next(pulled(0, 44, "140", "100"), 3, 3, 4);
        next(pulled(0, 44, "140", "100"), 4, 3, 4);
        // what no act holds in the first hour is left at once, or in the hour from which on it is of use
        next(pulled(0, 44, "200", "100"), 2, 4, 9);
        next(pulled(0, 44, "200", "100"), 1, 0, 5);
        // 50 more are from then on, and 50 more again
        AnchorThatDrags w = Due.under("pull wind;hold 40;jerk 0;");
        w.boat(0, 0, 44, 15);
        w.blow(0, 1, 90);
        w.blow(1, 1, 99);
        w.blow(2, 1, 99);
        w.blow(3, 1, 99);
        next(w, 1, 3, 4);
        next(w, 2, 3, 6);
        next(w, 3, 3, 8);
        next(w, 4, 3, 8);
        // 5, then nothing below it: away at once
        next(pulled(0, 44, "999", "0"), 2, 4, 9);
        next(pulled(0, 44, "999", "0"), 4, 4, 9);
        // odd hours alone: the first may pass
        next(pulled(2, 44, "101", "100"), 2, 0, 2);
        next(pulled(2, 44, "101", "100"), 4, 0, 4);
        // dragging once may bring it where it holds
        AnchorThatDrags x = Due.under("pull 999*(deep<6);hold 0;jerk 0;");
        x.boat(0, 0, 44, 18);
        x.sound(54, 0, 6);
        next(x, 4, 0, 5);
        // easing lasts for one hour alone
        AnchorThatDrags y = Due.under("pull wind;hold 40;jerk 0;");
        y.boat(0, 0, 44, 15);
        y.blow(0, 1, 80);
        y.blow(1, 1, 90);
        y.blow(2, 1, 30);
        next(y, 1, 2, 2);
        next(y, 2, 3, 4);
        y.blow(1, 1, 40);
        next(y, 3, 2, 2);
        due.is("boatTold(0, 4)", y.boatTold(0, 4), 44);
        due.is("boatTold(0, 5)", y.boatTold(0, 5), 15);
        // a turn breaks it out whatever is done
        AnchorThatDrags z = pulled(4, 44, "0", "100");
        z.blow(1, 0, 1);
        next(z, 1, 0, 0);
        next(z, 2, 0, 5);
        next(z, 3, 0, 9);
    }

    private static void letOut() {
        AnchorThatDrags x = Due.under("pull 41;hold out;jerk 0;");
        x.boat(0, 0, 44, 36);
        next(x, 1, 2, 2);
        x.let(0, 1, 35);
        next(x, 4, 3, 4);
        // 40 at most
        Due.text(x, "pull 40;hold out;jerk 0;");
        x.force(2);
        next(x, 4, 1, 1);
        x.let(0, 1, 38);
        next(x, 4, 1, 1);
        x.let(0, 1, 34);
        // 39 is not enough
        next(x, 1, 2, 2);
        next(x, 2, 2, 4);
        next(x, 3, 3, 4);
        // of 3 times DEEP
        AnchorThatDrags y = new AnchorThatDrags();
        y.boat(0, 300, 44, 14);
        next(y, 1, 1, 1);
        next(y, 4, 1, 1);
        due.is("boatTold(0, 5)", y.boatTold(0, 5), 14);
    }

    private static void ashore() {
        // gone: 50, and nothing more comes
        next(pulled(0, 94, "999", "0"), 1, 4, 9);
        next(pulled(0, 94, "140", "100"), 1, 2, 2);
        // a step, then gone: away first, as 5 and 9 are more
        next(pulled(0, 84, "999", "0"), 2, 4, 9);
        next(pulled(0, 94, "140", "100"), 4, 3, 4);
        next(pulled(0, 94, "190", "100"), 4, 4, 9);
        next(pulled(0, 94, "201", "100"), 4, 4, 9);
    }

    private static void refusalsOfNext() {
        AnchorThatDrags x = new AnchorThatDrags();
        x.boat(0, 900, 94, 5);
        x.boat(0, 400, 44, 15);
        due.is("next(0, 0, 0)", x.next(0, 0, 0), -7);
        due.is("next(0, 5, 0)", x.next(0, 5, 0), -7);
        due.is("next(0, 1, 2)", x.next(0, 1, 2), -7);
        due.is("next(0, 1, -1)", x.next(0, 1, -1), -7);
        due.is("next(2, 0, 2)", x.next(2, 0, 2), -5);
        due.is("next(-1, 1, 0)", x.next(-1, 1, 0), -5);
        x.goOn(10);
        due.is("next(0, 1, 0)", x.next(0, 1, 0), -3);
        due.is("next(0, 5, 0)", x.next(0, 5, 0), -7);
        // not beyond HOUR 11
        x.let(0, 0, 44);
        x.let(1, 0, 44);
        due.is("next(1, 4, 0) in HOUR 10", x.next(1, 4, 0), 2);
        due.is("next(1, 4, 1) in HOUR 10", x.next(1, 4, 1), 4);
        x.goOn(1);
        x.let(1, 0, 44);
        due.is("next(1, 4, 0) in HOUR 11", x.next(1, 4, 0), 2);
        due.is("next(1, 4, 1) in HOUR 11", x.next(1, 4, 1), 2);
    }

    private static void two() {
        AnchorThatDrags x = Due.under("pull wind;hold 50;jerk 0;");
        x.boat(0, 0, 44, 15);
        x.blow(3, 1, 99);
        int[] borne = {49, 53, 70, 129};
        int[] less = {10, 10, 14, 26};
        for (int ways = 0; ways < 4; ways++) {
            due.is("two(0, 3, " + ways + ", 0)", x.two(0, 3, ways, 0), borne[ways]);
            due.is("two(0, 3, " + ways + ", 1)", x.two(0, 3, ways, 1), ways == 0 ? 1 : 0);
            due.is("two(0, 4, " + ways + ", 0)", x.two(0, 4, ways, 0), less[ways]);
            due.is("two(0, 4, " + ways + ", 1)", x.two(0, 4, ways, 1), 1);
        }
        // 53 is not above 53
        x.force(Due.text(x, "pull wind;hold 53;jerk 0;"));
        due.is("two(0, 3, 1, 1)", x.two(0, 3, 1, 1), 1);
        x.let(0, 1, 14);
        due.is("two(0, 3, 1, 1) with less out", x.two(0, 3, 1, 1), 0);
        due.is("two(0, 12, 0, 0)", x.two(0, 12, 0, 0), -7);
        due.is("two(0, -1, 0, 0)", x.two(0, -1, 0, 0), -7);
        due.is("two(0, 0, 4, 0)", x.two(0, 0, 4, 0), -7);
        due.is("two(0, 0, -1, 0)", x.two(0, 0, -1, 0), -7);
        due.is("two(0, 0, 0, 2)", x.two(0, 0, 0, 2), -7);
        due.is("two(0, 0, 0, -1)", x.two(0, 0, 0, -1), -7);
        due.is("two(1, 12, 4, 2)", x.two(1, 12, 4, 2), -5);
        due.is("two(-1, 0, 0, 0)", x.two(-1, 0, 0, 0), -5);
        x.let(0, 0, 94);
        x.let(0, 1, 1);
        x.goOn(1);
        due.is("two(0, 0, 0, 0)", x.two(0, 0, 0, 0), -3);
        due.is("two(0, 12, 0, 0)", x.two(0, 12, 0, 0), -7);
    }

    private static void angle() {
        AnchorThatDrags x = Due.under("pull wind;hold 26;jerk 0;");
        x.boat(0, 0, 44, 15);
        // 20: 26 at 3 ways; 30: 21 at 2; 40: 21 at 1; 52: 26 at 0; 54: 27 at 0
        due.is("angle(0, 12)", x.angle(0, 12), 3);
        x.blow(2, 1, 30);
        due.is("angle(0, 2)", x.angle(0, 2), 3);
        due.is("angle(0, 3)", x.angle(0, 3), 2);
        x.blow(4, 1, 40);
        due.is("angle(0, 5)", x.angle(0, 5), 1);
        x.blow(6, 1, 52);
        due.is("angle(0, 7)", x.angle(0, 7), 0);
        x.blow(8, 1, 54);
        due.is("angle(0, 9)", x.angle(0, 9), -1);
        due.is("angle(0, 0)", x.angle(0, 0), 3);
        due.is("angle(0, 13)", x.angle(0, 13), -7);
        due.is("angle(0, -1)", x.angle(0, -1), -7);
        due.is("angle(1, 13)", x.angle(1, 13), -5);
        due.is("angle(-1, 0)", x.angle(-1, 0), -5);
        // its anchor is where it is, though it would drag
        AnchorThatDrags y = Due.under("pull wind;hold 19-(deep=6)*19;jerk 0;");
        y.boat(0, 0, 44, 18);
        y.sound(54, 0, 6);
        due.is("night(2, 0, 1)", y.night(2, 0, 1), 2);
        due.is("angle(0, 2)", y.angle(0, 2), 2);
        // from now on alone
        y.blow(0, 1, 99);
        due.is("angle(0, 2)", y.angle(0, 2), -1);
        y.goOn(1);
        y.let(0, 0, 44);
        due.is("angle(0, 2)", y.angle(0, 2), 2);
        due.is("angle(0, 12)", y.angle(0, 12), -7);
        y.let(0, 0, 94);
        y.goOn(1);
        due.is("angle(0, 2)", y.angle(0, 2), -3);
        due.is("angle(0, 11)", y.angle(0, 11), -7);
    }

    private static void turns() {
        AnchorThatDrags x = new AnchorThatDrags();
        x.boat(0, 300, 44, 15);
        // turns of 3 in HOURS 2, 4 and 6, of 4 in HOUR 8, of 2 in HOUR 10; jerk 5
        int[] way = {0, 0, 3, 3, 6, 6, 1, 1, 5, 5, 7, 7};
        for (int h = 0; h < 12; h++) {
            x.blow(h, 0, way[h]);
        }
        due.is("turns(0, 0)", x.turns(0, 0), 1000000);
        due.is("turns(0, 2)", x.turns(0, 2), 1000000);
        due.is("turns(0, 3)", x.turns(0, 3), 950000);
        due.is("turns(0, 4)", x.turns(0, 4), 950000);
        due.is("turns(0, 5)", x.turns(0, 5), 902500);
        due.is("turns(0, 7)", x.turns(0, 7), 857375);
        due.is("turns(0, 9)", x.turns(0, 9), 814506);
        due.is("turns(0, 12)", x.turns(0, 12), 814506);
        // by the wind of that hour
        x.blow(4, 1, 45);
        due.is("turns(0, 5)", x.turns(0, 5), 665000);
        x.blow(4, 1, 0);
        due.is("turns(0, 5)", x.turns(0, 5), 950000);
        due.is("turns(0, 13)", x.turns(0, 13), AnchorThatDrags.NO);
        due.is("turns(0, -1)", x.turns(0, -1), AnchorThatDrags.NO);
        due.is("turns(1, 1)", x.turns(1, 1), AnchorThatDrags.NO);
        due.is("turns(-1, 1)", x.turns(-1, 1), AnchorThatDrags.NO);
        // where its anchor is now, though it drags; by the hour's tide
        AnchorThatDrags y = Due.under("pull 999;hold 0;jerk deep;");
        y.boat(0, 0, 44, 15);
        y.sound(54, 0, 30);
        y.blow(1, 0, 4);
        y.blow(1, 2, 3);
        due.is("turns(0, 2)", y.turns(0, 2), 920000);
        y.goOn(1);
        due.is("turns(0, 1)", y.turns(0, 1), 670000);
        due.is("turns(0, 12)", y.turns(0, 12), AnchorThatDrags.NO);
        Due.text(y, "pull 999;hold 0;jerk 100;");
        y.force(2);
        due.is("turns(0, 1) by 100", y.turns(0, 1), 0);
        y.let(0, 0, 4);
        y.goOn(1);
        due.is("turns(0, 1)", y.turns(0, 1), -3);
        due.is("turns(0, 11)", y.turns(0, 11), AnchorThatDrags.NO);
    }
}
