/** Promises 1 to 6: a new object, the bay, the hours, counts. */
public final class BayTest {
    private static final Due due = new Due();

    public static void main(String[] args) {
        aNewObject();
        sound();
        chart();
        blow();
        told();
        count();
        due.end();
    }

    private static void aNewObject() {
        AnchorThatDrags x = new AnchorThatDrags();
        due.is("new count(0)", x.count(0), 0);
        due.is("new count(1)", x.count(1), 0);
        due.is("new count(2)", x.count(2), 1);
        due.is("new count(3)", x.count(3), 0);
        due.is("new count(4)", x.count(4), 0);
        due.is("new boatTold(0, 0)", x.boatTold(0, 0), -5);
        for (int c = 0; c < 100; c++) {
            due.is("new DEPTH of " + c, x.told(c, 0), 5);
            due.is("new BED of " + c, x.told(c, 1), 0);
            due.is("new taken " + c, x.taken(c, 6), 50);
        }
        for (int h = 0; h < 12; h++) {
            due.is("new WAY of " + h, x.told(h, 2), 0);
            due.is("new STRONG of " + h, x.told(h, 3), 20);
            due.is("new TIDE of " + h, x.told(h, 4), 0);
        }
        for (int s = 0; s < 4; s++) {
            due.is("new sheet " + s, x.cell(s, 0, 0), -11);
        }
        due.is("new back()", x.back(), -3);
        due.is("new rate above", x.rate(4, 3, 0), 1);
        due.is("new rate below", x.rate(4, 3, 1), 2);
        due.is("new pull", x.asks(0, 2003, 515, 4), 60);
        due.is("new hold", x.asks(1, 2003, 515, 14), 80);
        due.is("new jerk", x.asks(2, 2003, 515, 4), 5);
        AnchorThatDrags y = new AnchorThatDrags();
        x.sound(0, 0, 9);
        due.is("another object's DEPTH", y.told(0, 0), 5);
    }

    private static void sound() {
        AnchorThatDrags x = new AnchorThatDrags();
        due.is("sound(0, 0, 30)", x.sound(0, 0, 30), 5);
        due.is("sound(0, 0, 0)", x.sound(0, 0, 0), 30);
        due.is("told(0, 0)", x.told(0, 0), 0);
        due.is("sound(99, 1, 3)", x.sound(99, 1, 3), 0);
        due.is("sound(99, 1, 1)", x.sound(99, 1, 1), 3);
        due.is("told(99, 1)", x.told(99, 1), 1);
        due.is("sound(98, 1, 2)", x.sound(98, 1, 2), 0);
        due.is("sound(98, 1, 0)", x.sound(98, 1, 0), 2);
        due.is("told(99, 0)", x.told(99, 0), 5);
        due.is("told(98, 1)", x.told(98, 1), 0);
        due.is("sound(-1, 0, 1)", x.sound(-1, 0, 1), -5);
        due.is("sound(100, 0, 1)", x.sound(100, 0, 1), -5);
        due.is("sound(100, 2, 99)", x.sound(100, 2, 99), -5);
        due.is("sound(1, 2, 1)", x.sound(1, 2, 1), -7);
        due.is("sound(1, -1, 1)", x.sound(1, -1, 1), -7);
        due.is("sound(1, 0, 31)", x.sound(1, 0, 31), -7);
        due.is("sound(1, 0, -1)", x.sound(1, 0, -1), -7);
        due.is("sound(1, 1, 4)", x.sound(1, 1, 4), -7);
        due.is("sound(1, 1, -1)", x.sound(1, 1, -1), -7);
        due.is("told(1, 0)", x.told(1, 0), 5);
        due.is("told(1, 1)", x.told(1, 1), 0);
    }

    private static void chart() {
        AnchorThatDrags x = new AnchorThatDrags();
        due.is("chart(0, 99, 0, 7)", x.chart(0, 99, 0, 7), 81);
        due.is("told(88, 0)", x.told(88, 0), 7);
        due.is("told(89, 0)", x.told(89, 0), 5);
        due.is("told(98, 0)", x.told(98, 0), 5);
        due.is("told(88, 1)", x.told(88, 1), 0);
        due.is("chart(88, 35, 1, 2)", x.chart(88, 35, 1, 2), 4);
        for (int c = 0; c < 100; c++) {
            boolean in = c == 88 || c == 89 || c == 98 || c == 99;
            due.is("BED of " + c, x.told(c, 1), in ? 2 : 0);
        }
        due.is("chart(55, 21, 0, 30)", x.chart(55, 21, 0, 30), 2);
        due.is("told(55, 0)", x.told(55, 0), 30);
        due.is("told(65, 0)", x.told(65, 0), 30);
        due.is("told(56, 0)", x.told(56, 0), 7);
        due.is("told(75, 0)", x.told(75, 0), 7);
        due.is("told(45, 0)", x.told(45, 0), 7);
        due.is("chart(95, 93, 0, 0)", x.chart(95, 93, 0, 0), 3);
        due.is("told(95, 0)", x.told(95, 0), 0);
        due.is("told(97, 0)", x.told(97, 0), 0);
        due.is("told(98, 0)", x.told(98, 0), 5);
        due.is("chart(99, 11, 1, 3)", x.chart(99, 11, 1, 3), 1);
        due.is("told(99, 1)", x.told(99, 1), 3);
        due.is("chart(-1, 11, 0, 1)", x.chart(-1, 11, 0, 1), -2);
        due.is("chart(100, 11, 0, 1)", x.chart(100, 11, 0, 1), -2);
        int[] shapes = {10, 9, 1, 0, 20, 90, 100, 101, 111, -11, Integer.MIN_VALUE, Integer.MAX_VALUE};
        for (int shape : shapes) {
            due.is("chart(0, " + shape + ", 0, 1)", x.chart(0, shape, 0, 1), -2);
        }
        due.is("chart(0, 10, 2, 99)", x.chart(0, 10, 2, 99), -2);
        due.is("chart(0, 11, 2, 1)", x.chart(0, 11, 2, 1), -7);
        due.is("chart(0, 11, -1, 1)", x.chart(0, 11, -1, 1), -7);
        due.is("chart(0, 11, 0, 31)", x.chart(0, 11, 0, 31), -7);
        due.is("chart(0, 11, 0, -1)", x.chart(0, 11, 0, -1), -7);
        due.is("chart(0, 11, 1, 4)", x.chart(0, 11, 1, 4), -7);
        due.is("told(0, 0) behind refusals", x.told(0, 0), 7);
        due.is("told(0, 1) behind refusals", x.told(0, 1), 0);
    }

    private static void blow() {
        AnchorThatDrags x = new AnchorThatDrags();
        due.is("blow(0, 0, 7)", x.blow(0, 0, 7), 0);
        due.is("blow(0, 0, 1)", x.blow(0, 0, 1), 7);
        due.is("blow(11, 1, 99)", x.blow(11, 1, 99), 20);
        due.is("blow(11, 1, 0)", x.blow(11, 1, 0), 99);
        due.is("blow(5, 2, -3)", x.blow(5, 2, -3), 0);
        due.is("blow(5, 2, 3)", x.blow(5, 2, 3), -3);
        due.is("told(0, 2)", x.told(0, 2), 1);
        due.is("blow(0, 0, 0)", x.blow(0, 0, 0), 1);
        due.is("told(0, 2)", x.told(0, 2), 0);
        due.is("told(11, 3)", x.told(11, 3), 0);
        due.is("told(5, 4)", x.told(5, 4), 3);
        due.is("told(5, 2)", x.told(5, 2), 0);
        due.is("told(5, 3)", x.told(5, 3), 20);
        due.is("blow(12, 0, 1)", x.blow(12, 0, 1), -5);
        due.is("blow(-1, 0, 1)", x.blow(-1, 0, 1), -5);
        due.is("blow(12, 3, 1)", x.blow(12, 3, 1), -5);
        due.is("blow(1, 3, 1)", x.blow(1, 3, 1), -7);
        due.is("blow(1, -1, 1)", x.blow(1, -1, 1), -7);
        due.is("blow(1, 0, 8)", x.blow(1, 0, 8), -7);
        due.is("blow(1, 0, -1)", x.blow(1, 0, -1), -7);
        due.is("blow(1, 1, 100)", x.blow(1, 1, 100), -7);
        due.is("blow(1, 1, -1)", x.blow(1, 1, -1), -7);
        due.is("blow(1, 2, 4)", x.blow(1, 2, 4), -7);
        due.is("blow(1, 2, -4)", x.blow(1, 2, -4), -7);
        due.is("told(1, 2)", x.told(1, 2), 0);
        due.is("told(1, 3)", x.told(1, 3), 20);
        due.is("told(1, 4)", x.told(1, 4), 0);
    }

    private static void told() {
        AnchorThatDrags x = new AnchorThatDrags();
        due.is("told(0, 5)", x.told(0, 5), -7);
        due.is("told(0, -1)", x.told(0, -1), -7);
        due.is("told(100, 5)", x.told(100, 5), -7);
        due.is("told(100, 0)", x.told(100, 0), -5);
        due.is("told(-1, 1)", x.told(-1, 1), -5);
        due.is("told(12, 0)", x.told(12, 0), 5);
        due.is("told(12, 2)", x.told(12, 2), -5);
        due.is("told(12, 3)", x.told(12, 3), -5);
        due.is("told(-1, 4)", x.told(-1, 4), -5);
        x.blow(3, 2, -2);
        due.is("told(3, 4)", x.told(3, 4), -2);
    }

    private static void count() {
        AnchorThatDrags x = new AnchorThatDrags();
        x.boat(0, 0, 0, 1);
        x.boat(0, 0, 0, 1);
        Due.text(x, "pull 1;hold 1;jerk 1;");
        Due.text(x, "pull 1;hold 1;jerk 1;");
        x.force(2);
        x.force(1);
        Due.feed(x, "abcd");
        x.goOn(5);
        due.is("count(0)", x.count(0), 5);
        due.is("count(1)", x.count(1), 2);
        due.is("count(2)", x.count(2), 3);
        due.is("count(3)", x.count(3), 1);
        due.is("count(4)", x.count(4), 4);
        due.is("count(5)", x.count(5), -2);
        due.is("count(-1)", x.count(-1), -2);
    }
}
