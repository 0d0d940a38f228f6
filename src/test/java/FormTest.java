/** Promises 32 to 35: forms of anchors by trials. */
public final class FormTest {
    private static final Due due = new Due();
    private static final long NO = AnchorThatDrags.NO;

    public static void main(String[] args) {
        trial();
        rate();
        form();
        joined();
        due.end();
    }

    private static void rate(AnchorThatDrags x, int form, int ground, long above, long below) {
        due.is("rate(" + form + ", " + ground + ", 0)", x.rate(form, ground, 0), above);
        due.is("rate(" + form + ", " + ground + ", 1)", x.rate(form, ground, 1), below);
    }

    private static void trial() {
        AnchorThatDrags x = new AnchorThatDrags();
        due.is("trial(4, 3, 0, 1)", x.trial(4, 3, 0, 1), 1);
        due.is("trial(4, 3, 99, 99)", x.trial(4, 3, 99, 99), 100);
        due.is("trial(4, 2, 1, 1)", x.trial(4, 2, 1, 1), 1);
        due.is("trial(3, 3, 1, 2)", x.trial(3, 3, 1, 2), 2);
        due.is("trial(5, 0, 0, 1)", x.trial(5, 0, 0, 1), -1);
        due.is("trial(-1, 0, 0, 1)", x.trial(-1, 0, 0, 1), -1);
        due.is("trial(0, 4, 0, 1)", x.trial(0, 4, 0, 1), -1);
        due.is("trial(0, -1, 0, 1)", x.trial(0, -1, 0, 1), -1);
        due.is("trial(0, 4, 9, 0)", x.trial(0, 4, 9, 0), -1);
        due.is("trial(0, 0, 0, 0)", x.trial(0, 0, 0, 0), -2);
        due.is("trial(0, 0, 0, 100)", x.trial(0, 0, 0, 100), -2);
        due.is("trial(0, 0, 0, -1)", x.trial(0, 0, 0, -1), -2);
        due.is("trial(0, 0, 2, 1)", x.trial(0, 0, 2, 1), -2);
        due.is("trial(0, 0, -1, 1)", x.trial(0, 0, -1, 1), -2);
        rate(x, 0, 0, 1, 2);
        rate(x, 4, 3, 50, 51);
    }

    private static void rate() {
        AnchorThatDrags x = new AnchorThatDrags();
        rate(x, 0, 0, 1, 2);
        x.trial(0, 0, 9, 10);
        rate(x, 0, 0, 5, 6);
        x.trial(0, 0, 0, 1);
        rate(x, 0, 0, 10, 13);
        rate(x, 0, 1, 1, 2);
        rate(x, 1, 0, 1, 2);
        x.trial(1, 1, 0, 99);
        rate(x, 1, 1, 1, 101);
        x.trial(2, 2, 49, 99);
        rate(x, 2, 2, 50, 101);
        x.trial(2, 2, 1, 1);
        rate(x, 2, 2, 1, 2);
        due.is("rate(5, 0, 0)", x.rate(5, 0, 0), NO);
        due.is("rate(-1, 0, 0)", x.rate(-1, 0, 0), NO);
        due.is("rate(0, 4, 0)", x.rate(0, 4, 0), NO);
        due.is("rate(0, -1, 0)", x.rate(0, -1, 0), NO);
        due.is("rate(0, 0, 2)", x.rate(0, 0, 2), NO);
        due.is("rate(0, 0, -1)", x.rate(0, 0, -1), NO);
        // 9999 are the most
        AnchorThatDrags y = new AnchorThatDrags();
        for (int k = 0; k < 100; k++) {
            y.trial(0, 0, k % 2 == 0 ? 99 : 0, 99);
        }
        due.is("trial to 9999", y.trial(0, 0, 0, 99), 9999);
        due.is("trial above 9999", y.trial(0, 0, 1, 1), -4);
        due.is("trial above 9999, bad", y.trial(0, 0, 2, 1), -2);
        rate(y, 0, 0, 4951, 10001);
        due.is("trial of another", y.trial(0, 1, 1, 1), 1);
        AnchorThatDrags z = new AnchorThatDrags();
        for (int k = 0; k < 101; k++) {
            z.trial(0, 0, 99, 99);
        }
        rate(z, 0, 0, 10000, 10001);
    }

    private static void form() {
        AnchorThatDrags x = new AnchorThatDrags();
        due.is("form(0)", x.form(0), 0);
        due.is("form(3)", x.form(3), 0);
        due.is("form(4)", x.form(4), -5);
        due.is("form(-1)", x.form(-1), -5);
        x.trial(3, 1, 1, 1);
        x.trial(4, 1, 1, 1);
        due.is("form(1) of like ones", x.form(1), 3);
        x.trial(2, 1, 3, 4);
        due.is("form(1) of the same by other numbers", x.form(1), 2);
        x.trial(4, 1, 1, 1);
        due.is("form(1)", x.form(1), 4);
        due.is("form(0)", x.form(0), 0);
        x.trial(0, 0, 0, 1);
        due.is("form(0) without 0", x.form(0), 1);
        for (int f = 0; f < 5; f++) {
            x.trial(f, 2, 0, f == 3 ? 2 : 3);
        }
        due.is("form(2), all of them bad", x.form(2), 3);
    }

    private static void joined() {
        AnchorThatDrags x = new AnchorThatDrags();
        due.is("joined()", x.joined(), 0);
        x.trial(0, 2, 0, 1);
        due.is("joined() without 0", x.joined(), 1);
        x.trial(1, 0, 99, 99);
        due.is("joined() by the worst bed", x.joined(), 1);
        x.trial(1, 3, 0, 1);
        due.is("joined() without 1", x.joined(), 2);
        for (int ground = 0; ground < 4; ground++) {
            x.trial(4, ground, 1, 1);
        }
        due.is("joined() by all beds", x.joined(), 4);
        x.trial(4, 2, 0, 9);
        due.is("joined() by one bed", x.joined(), 2);
        x.trial(2, 0, 0, 1);
        x.trial(3, 1, 0, 1);
        // worst: 0 1/3, 1 1/3, 2 1/3, 3 1/3, 4 2/12
        due.is("joined() of like ones", x.joined(), 0);
        x.trial(0, 1, 0, 2);
        due.is("joined() of like ones", x.joined(), 1);
    }
}
