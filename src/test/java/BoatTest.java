/** Promises 11 to 14: boats, what is told of them, how they hold. */
public final class BoatTest {
    private static final Due due = new Due();

    public static void main(String[] args) {
        boat();
        let();
        boatTold();
        pull();
        powerOfKinds();
        power();
        liesOff();
        scope();
        refusalsOfHold();
        due.end();
    }

    private static void boat() {
        AnchorThatDrags x = new AnchorThatDrags();
        due.is("boat(6, 0, 0, 1)", x.boat(6, 0, 0, 1), -2);
        due.is("boat(-1, 0, 0, 1)", x.boat(-1, 0, 0, 1), -2);
        due.is("boat(0, 1000, 0, 1)", x.boat(0, 1000, 0, 1), -2);
        due.is("boat(0, -1, 0, 1)", x.boat(0, -1, 0, 1), -2);
        due.is("boat(0, 0, 100, 1)", x.boat(0, 0, 100, 1), -2);
        due.is("boat(0, 0, -1, 1)", x.boat(0, 0, -1, 1), -2);
        due.is("boat(0, 0, 0, 0)", x.boat(0, 0, 0, 0), -2);
        due.is("boat(0, 0, 0, 41)", x.boat(0, 0, 0, 41), -2);
        due.is("count(1)", x.count(1), 0);
        for (int i = 0; i < 6; i++) {
            due.is("boat " + i, x.boat(i, 999, 99, 40), i);
        }
        due.is("boat 6", x.boat(0, 0, 0, 1), -4);
        due.is("boat 6, bad", x.boat(0, 0, 0, 0), -2);
        due.is("count(1)", x.count(1), 6);
    }

    private static void let() {
        AnchorThatDrags x = new AnchorThatDrags();
        x.boat(0, 0, 44, 10);
        x.boat(0, 900, 94, 10);
        due.is("let(0, 0, 99)", x.let(0, 0, 99), 44);
        due.is("let(0, 0, 0)", x.let(0, 0, 0), 99);
        due.is("let(0, 1, 40)", x.let(0, 1, 40), 10);
        due.is("let(0, 1, 1)", x.let(0, 1, 1), 40);
        due.is("boatTold(0, 4)", x.boatTold(0, 4), 0);
        due.is("boatTold(0, 5)", x.boatTold(0, 5), 1);
        due.is("boatTold(1, 5)", x.boatTold(1, 5), 10);
        x.goOn(1);
        due.is("boatTold(1, 4)", x.boatTold(1, 4), -1);
        due.is("let(1, 1, 7)", x.let(1, 1, 7), 10);
        due.is("let(1, 0, 50)", x.let(1, 0, 50), -1);
        due.is("boatTold(1, 4)", x.boatTold(1, 4), 50);
        due.is("let(2, 0, 0)", x.let(2, 0, 0), -5);
        due.is("let(-1, 0, 0)", x.let(-1, 0, 0), -5);
        due.is("let(2, 2, 99)", x.let(2, 2, 99), -5);
        due.is("let(0, 2, 1)", x.let(0, 2, 1), -7);
        due.is("let(0, -1, 1)", x.let(0, -1, 1), -7);
        due.is("let(0, 0, 100)", x.let(0, 0, 100), -7);
        due.is("let(0, 0, -1)", x.let(0, 0, -1), -7);
        due.is("let(0, 1, 0)", x.let(0, 1, 0), -7);
        due.is("let(0, 1, 41)", x.let(0, 1, 41), -7);
        due.is("boatTold(0, 4)", x.boatTold(0, 4), 0);
        due.is("boatTold(0, 5)", x.boatTold(0, 5), 1);
    }

    private static void boatTold() {
        AnchorThatDrags x = new AnchorThatDrags();
        x.boat(5, 123, 45, 6);
        x.boat(3, 7, 8, 9);
        due.is("KIND", x.boatTold(0, 0), 5);
        due.is("AREA", x.boatTold(0, 1), 1);
        due.is("HEAVY", x.boatTold(0, 2), 2);
        due.is("MORE", x.boatTold(0, 3), 3);
        due.is("THE CELL", x.boatTold(0, 4), 45);
        due.is("OUT", x.boatTold(0, 5), 6);
        due.is("KIND", x.boatTold(1, 0), 3);
        due.is("AREA", x.boatTold(1, 1), 0);
        due.is("MORE", x.boatTold(1, 3), 7);
        due.is("boatTold(2, 0)", x.boatTold(2, 0), -5);
        due.is("boatTold(-1, 0)", x.boatTold(-1, 0), -5);
        due.is("boatTold(2, 6)", x.boatTold(2, 6), -5);
        due.is("boatTold(0, 6)", x.boatTold(0, 6), -7);
        due.is("boatTold(0, -1)", x.boatTold(0, -1), -7);
    }

    /** The law is asked with the wind of the hour, the boat's own numbers, DEEP and BED of its cell. */
    private static void pull() {
        AnchorThatDrags x = new AnchorThatDrags();
        x.boat(0, 340, 44, 15);
        x.blow(7, 1, 50);
        due.is("hold(0, 0, 0)", x.hold(0, 0, 0), 60);
        due.is("hold(0, 7, 0)", x.hold(0, 7, 0), 150);
        x.blow(7, 1, 0);
        due.is("hold(0, 7, 0)", x.hold(0, 7, 0), 0);
        due.is("count(0)", x.count(0), 0);
        AnchorThatDrags y = Due.under("pull area*100+heavy*10+bed;hold deep*20+wind*0;jerk out;");
        y.boat(0, 349, 44, 30);
        y.sound(44, 1, 2);
        y.sound(44, 0, 7);
        y.blow(3, 2, -2);
        due.is("area, heavy, bed", y.hold(0, 0, 0), 342);
        due.is("deep", y.hold(0, 0, 1), 140);
        due.is("deep with the tide", y.hold(0, 3, 1), 100);
        AnchorThatDrags z = Due.under("pull out*20;hold 61;jerk out;");
        z.boat(0, 349, 44, 30);
        due.is("out", z.hold(0, 0, 0), 600);
    }

    private static void powerOfKinds() {
        int[] at60 = {60, 90, 60, 15, 90, 160};
        int[] at61 = {61, 91, 61, 15, 91, 161};
        int[] at999 = {999, 1498, 999, 249, 1498, 1568};
        // OUT 7 of 3 times 5
        int[] short61 = {28, 42, 28, 7, 42, 75};
        for (int kind = 0; kind < 6; kind++) {
            AnchorThatDrags x = new AnchorThatDrags();
            x.boat(kind, 307, 44, 15);
            due.is("POWER of kind " + kind, x.hold(0, 0, 1), at60[kind]);
            Due.text(x, "pull 0;hold 61;jerk 0;");
            Due.text(x, "pull 0;hold 9999;jerk 0;");
            x.force(1);
            due.is("POWER of kind " + kind + " at 61", x.hold(0, 0, 1), at61[kind]);
            x.force(2);
            due.is("POWER of kind " + kind + " at 999", x.hold(0, 0, 1), at999[kind]);
            x.force(1);
            x.let(0, 1, 7);
            due.is("POWER of kind " + kind + " with 7 out", x.hold(0, 0, 1), short61[kind]);
        }
        AnchorThatDrags y = new AnchorThatDrags();
        y.boat(5, 434, 64, 12);
        due.is("POWER of DOUBLED", y.hold(0, 0, 1), 140);
        y.boat(5, 430, 64, 15);
        due.is("POWER of DOUBLED, 0 MORE", y.hold(1, 0, 1), 135);
    }

    private static void power() {
        AnchorThatDrags x = new AnchorThatDrags();
        x.boat(0, 340, 44, 15);
        due.is("OUT as 3 times DEEP", x.hold(0, 0, 1), 100);
        x.let(0, 1, 14);
        due.is("OUT 14", x.hold(0, 0, 1), 93);
        x.let(0, 1, 1);
        due.is("OUT 1", x.hold(0, 0, 1), 6);
        x.let(0, 1, 15);
        x.blow(4, 2, 3);
        due.is("at TIDE 3", x.hold(0, 4, 1), 62);
        x.blow(4, 2, -3);
        due.is("at TIDE -3", x.hold(0, 4, 1), 100);
        x.let(0, 1, 1);
        due.is("at TIDE -3, OUT 1", x.hold(0, 4, 1), 16);
        x.sound(44, 0, 3);
        due.is("DEEP 0", x.hold(0, 4, 1), 100);
        x.sound(44, 0, 1);
        due.is("DEEP 0, not below", x.hold(0, 4, 1), 100);
        x.let(0, 1, 40);
        x.sound(44, 0, 30);
        x.blow(4, 2, 3);
        due.is("DEEP 33", x.hold(0, 4, 1), 40);
        x.sound(44, 1, 3);
        due.is("rock", x.hold(0, 4, 1), 16);
    }

    private static void liesOff() {
        AnchorThatDrags x = new AnchorThatDrags();
        x.boat(0, 340, 99, 15);
        int[] out = {1, 4, 5, 6, 7, 11, 12, 15, 16, 20, 21, 25, 26, 30, 40};
        // roots of OUT times OUT less 25: 0, 0, 0, 3, 4, 9, 10, 14, 15, 19, 20, 24, 25, 29, 39
        int[] off = {0, 0, 0, 0, 0, 1, 2, 2, 3, 3, 4, 4, 5, 5, 7};
        for (int k = 0; k < out.length; k++) {
            x.let(0, 1, out[k]);
            due.is("off with " + out[k] + " out", x.hold(0, 0, 2), off[k]);
        }
        x.let(0, 1, 40);
        x.sound(99, 0, 0);
        due.is("off with 40 out of DEEP 0", x.hold(0, 0, 2), 8);
        x.sound(99, 0, 30);
        due.is("off with 40 out of DEEP 30", x.hold(0, 0, 2), 5);
        x.blow(2, 2, 3);
        due.is("off with 40 out of DEEP 33", x.hold(0, 2, 2), 4);
        x.blow(2, 2, -3);
        due.is("off with 40 out of DEEP 27", x.hold(0, 2, 2), 5);
        x.sound(99, 0, 0);
        x.let(0, 1, 5);
        due.is("off with 5 out of DEEP 0", x.hold(0, 2, 2), 1);
        x.let(0, 1, 4);
        due.is("off with 4 out of DEEP 0", x.hold(0, 2, 2), 0);
    }

    private static void scope() {
        AnchorThatDrags x = new AnchorThatDrags();
        x.boat(0, 340, 44, 5);
        due.is("5 of 15", x.hold(0, 0, 3), 33);
        x.let(0, 1, 14);
        due.is("14 of 15", x.hold(0, 0, 3), 93);
        x.let(0, 1, 15);
        due.is("15 of 15", x.hold(0, 0, 3), 100);
        x.let(0, 1, 16);
        due.is("16 of 15", x.hold(0, 0, 3), 100);
        x.blow(1, 2, 3);
        due.is("16 of 24", x.hold(0, 1, 3), 66);
        x.let(0, 1, 1);
        due.is("1 of 24", x.hold(0, 1, 3), 4);
        x.blow(1, 2, -3);
        x.sound(44, 0, 3);
        due.is("1 of DEEP 0", x.hold(0, 1, 3), 100);
        x.sound(44, 0, 4);
        due.is("1 of DEEP 1", x.hold(0, 1, 3), 33);
    }

    private static void refusalsOfHold() {
        AnchorThatDrags x = new AnchorThatDrags();
        x.boat(0, 900, 94, 15);
        due.is("hold(1, 0, 0)", x.hold(1, 0, 0), -5);
        due.is("hold(-1, 0, 0)", x.hold(-1, 0, 0), -5);
        due.is("hold(1, 12, 4)", x.hold(1, 12, 4), -5);
        due.is("hold(0, 12, 0)", x.hold(0, 12, 0), -7);
        due.is("hold(0, -1, 0)", x.hold(0, -1, 0), -7);
        due.is("hold(0, 0, 4)", x.hold(0, 0, 4), -7);
        due.is("hold(0, 0, -1)", x.hold(0, 0, -1), -7);
        due.is("hold(0, 11, 0)", x.hold(0, 11, 0), 180);
        x.goOn(1);
        due.is("hold(0, 0, 0) of one that is gone", x.hold(0, 0, 0), -3);
        due.is("hold(0, 12, 0) of one that is gone", x.hold(0, 12, 0), -7);
        due.is("hold(1, 12, 0)", x.hold(1, 12, 0), -5);
    }
}
