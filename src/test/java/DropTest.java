/** Promises 20 to 23: how much to let out, where to drop, rings that meet, who must move. */
public final class DropTest {
    private static final Due due = new Due();

    public static void main(String[] args) {
        veer();
        drop();
        dropClearOfOthers();
        rings();
        late();
        due.end();
    }

    private static void veer() {
        AnchorThatDrags x = new AnchorThatDrags();
        x.boat(0, 340, 44, 30);
        x.boat(0, 940, 44, 30);
        due.is("veer(0, 12)", x.veer(0, 12), 9);
        due.is("veer(1, 12)", x.veer(1, 12), -1);
        due.is("veer(0, 0)", x.veer(0, 0), 1);
        due.is("veer(1, 0)", x.veer(1, 0), 1);
        due.is("boatTold(0, 5)", x.boatTold(0, 5), 30);
        x.blow(5, 2, 3);
        due.is("veer(0, 5)", x.veer(0, 5), 9);
        due.is("veer(0, 6) at TIDE 3", x.veer(0, 6), 15);
        x.sound(44, 0, 30);
        due.is("veer(0, 5) at 30", x.veer(0, 5), -1);
        AnchorThatDrags y = Due.under("pull 40;hold out;jerk 0;");
        y.boat(0, 0, 44, 1);
        due.is("veer to 40", y.veer(0, 12), 40);
        Due.text(y, "pull 41;hold out;jerk 0;");
        y.force(2);
        due.is("veer beyond 40", y.veer(0, 12), -1);
        // one that breaks out is not held by more out
        AnchorThatDrags z = new AnchorThatDrags();
        z.boat(4, 0, 44, 5);
        z.blow(2, 0, 1);
        due.is("veer(0, 2) of a ROCKED", z.veer(0, 2), 1);
        due.is("veer(0, 3) of a ROCKED", z.veer(0, 3), -1);
        z.boat(0, 900, 94, 5);
        z.goOn(1);
        due.is("veer(1, 1)", z.veer(1, 1), -3);
        due.is("veer(1, 12)", z.veer(1, 12), -7);
        due.is("veer(1, -1)", z.veer(1, -1), -7);
        due.is("veer(2, -1)", z.veer(2, -1), -5);
        due.is("veer(-1, 0)", z.veer(-1, 0), -5);
    }

    private static void drop() {
        AnchorThatDrags x = new AnchorThatDrags();
        x.boat(0, 340, 44, 15);
        due.is("drop(0, 12, 0)", x.drop(0, 12, 0), 0);
        due.is("drop(0, 12, 1)", x.drop(0, 12, 1), 100);
        x.chart(0, 19, 1, 3);
        x.sound(9, 1, 2);
        due.is("drop(0, 0, 0)", x.drop(0, 0, 0), 9);
        due.is("drop(0, 0, 1)", x.drop(0, 0, 1), 91);
        // weed holds 60 as 100 less 40, and PULL is 60
        due.is("drop(0, 12, 0)", x.drop(0, 12, 0), 9);
        x.blow(2, 1, 21);
        due.is("drop(0, 2, 0)", x.drop(0, 2, 0), 9);
        due.is("drop(0, 3, 0)", x.drop(0, 3, 0), 10);
        due.is("drop(0, 3, 1)", x.drop(0, 3, 1), 90);
        x.blow(2, 1, 99);
        due.is("drop(0, 2, 1)", x.drop(0, 2, 1), 91);
        due.is("drop(0, 3, 0)", x.drop(0, 3, 0), -1);
        due.is("drop(0, 3, 1)", x.drop(0, 3, 1), 0);
        due.is("boatTold(0, 4)", x.boatTold(0, 4), 44);
        due.is("drop(0, 3, 2)", x.drop(0, 3, 2), -7);
        due.is("drop(0, 3, -1)", x.drop(0, 3, -1), -7);
        due.is("drop(0, 13, 0)", x.drop(0, 13, 0), -7);
        due.is("drop(0, -1, 0)", x.drop(0, -1, 0), -7);
        due.is("drop(1, 13, 2)", x.drop(1, 13, 2), -5);
        due.is("drop(-1, 0, 0)", x.drop(-1, 0, 0), -5);
        // one that is gone may be dropped anew
        x.let(0, 0, 94);
        x.blow(0, 1, 99);
        x.goOn(1);
        due.is("boatTold(0, 4)", x.boatTold(0, 4), -1);
        due.is("drop(0, 1, 0)", x.drop(0, 1, 0), 9);
        due.is("boatTold(0, 4)", x.boatTold(0, 4), -1);
    }

    private static void dropClearOfOthers() {
        AnchorThatDrags x = new AnchorThatDrags();
        x.boat(0, 0, 44, 5);
        x.boat(0, 0, 44, 12);
        x.boat(0, 0, 4, 5);
        x.boat(0, 900, 94, 5);
        x.goOn(1);
        // boat 1 lies in 64, boat 2 in 4, boat 3 is gone
        due.is("drop(0, 0, 1)", x.drop(0, 0, 1), 100);
        due.is("drop(0, 1, 1)", x.drop(0, 1, 1), 98);
        due.is("drop(0, 1, 0)", x.drop(0, 1, 0), 0);
        // others that drag are met where they have dragged to, hour by hour
        x.let(3, 0, 14);
        due.is("drop(0, 1, 1) with 24", x.drop(0, 1, 1), 97);
        due.is("drop(0, 3, 1) with 24, 34, 44", x.drop(0, 3, 1), 95);
        due.is("drop(0, 11, 1) with 24 .. 94, 64 once", x.drop(0, 11, 1), 91);
        x.let(2, 0, 0);
        due.is("drop(0, 1, 0) beside 0", x.drop(0, 1, 0), 1);
        // it lies off itself, and a ring's end lies in the bay's last row
        AnchorThatDrags y = new AnchorThatDrags();
        y.boat(0, 0, 0, 12);
        y.boat(0, 0, 94, 5);
        due.is("drop(0, 1, 1) without 74, 84, 94", y.drop(0, 1, 1), 97);
    }

    private static void rings() {
        AnchorThatDrags x = new AnchorThatDrags();
        x.boat(0, 0, 44, 15);
        x.boat(0, 0, 54, 10);
        x.boat(0, 0, 46, 5);
        x.boat(0, 0, 66, 15);
        x.boat(0, 900, 90, 5);
        due.is("rings(0, 1)", x.rings(0, 1), 1);
        due.is("rings(1, 0)", x.rings(1, 0), 1);
        due.is("rings(0, 2)", x.rings(0, 2), 4);
        due.is("rings(0, 3)", x.rings(0, 3), 0);
        x.let(3, 1, 5);
        due.is("rings(0, 3)", x.rings(0, 3), 2);
        x.let(2, 0, 26);
        due.is("rings(0, 2)", x.rings(0, 2), 8);
        x.let(2, 0, 24);
        due.is("rings(0, 2)", x.rings(0, 2), 16);
        x.let(2, 0, 22);
        due.is("rings(0, 2)", x.rings(0, 2), 32);
        x.let(2, 0, 42);
        due.is("rings(0, 2)", x.rings(0, 2), 64);
        x.let(2, 0, 62);
        due.is("rings(0, 2)", x.rings(0, 2), 128);
        x.let(2, 0, 44);
        x.let(2, 1, 12);
        due.is("rings(0, 2) of like ones", x.rings(0, 2), 255);
        x.let(0, 0, 0);
        x.let(2, 0, 0);
        x.let(2, 1, 5);
        due.is("rings(0, 2) in a corner", x.rings(0, 2), 248);
        due.is("rings(0, 0)", x.rings(0, 0), -5);
        due.is("rings(4, 4)", x.rings(4, 4), -5);
        due.is("rings(0, 5)", x.rings(0, 5), -5);
        due.is("rings(5, 0)", x.rings(5, 0), -5);
        due.is("rings(-1, 0)", x.rings(-1, 0), -5);
        due.is("rings(5, 5)", x.rings(5, 5), -5);
        // how far they lie is as of the hour that is now
        x.let(0, 0, 44);
        x.let(1, 0, 54);
        x.blow(1, 2, -3);
        x.goOn(1);
        due.is("rings(0, 1) at TIDE -3", x.rings(0, 1), 1);
        x.let(0, 1, 13);
        due.is("rings(0, 1) with 13 out at TIDE -3", x.rings(0, 1), 1);
        x.let(1, 1, 9);
        due.is("rings(0, 1) with 9 out at TIDE -3", x.rings(0, 1), 1);
        x.goOn(1);
        due.is("rings(0, 1) with 9 out at TIDE 0", x.rings(0, 1), 1);
        x.blow(2, 2, 3);
        due.is("rings(0, 1) with 9 out at TIDE 3", x.rings(0, 1), 0);
        due.is("rings(0, 4)", x.rings(0, 4), -3);
        due.is("rings(4, 0)", x.rings(4, 0), -3);
    }

    private static void late() {
        AnchorThatDrags x = new AnchorThatDrags();
        due.is("late() of none", x.late(), -1);
        x.boat(0, 900, 94, 5);
        due.is("late() of one", x.late(), -1);
        x.boat(0, 0, 44, 15);
        x.boat(0, 0, 94, 5);
        due.is("late()", x.late(), 2);
        x.goOn(1);
        due.is("late() with one gone", x.late(), -1);
        x.boat(0, 0, 11, 5);
        x.boat(0, 0, 54, 10);
        x.boat(0, 0, 11, 5);
        due.is("late() of the least", x.late(), 4);
        x.let(4, 0, 57);
        due.is("late() of the other", x.late(), 5);
        x.let(5, 0, 75);
        due.is("late() of none", x.late(), -1);
    }
}
