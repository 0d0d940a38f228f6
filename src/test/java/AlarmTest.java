/** Promises 24 to 27: an alarm's ring, marks in line. */
public final class AlarmTest {
    private static final Due due = new Due();

    public static void main(String[] args) {
        alarm();
        size();
        line();
        marks();
        due.end();
    }

    private static void alarm() {
        AnchorThatDrags x = new AnchorThatDrags();
        x.boat(0, 0, 44, 12);
        x.blow(2, 0, 1);
        x.blow(3, 2, -3);
        x.sound(44, 0, 3);
        // lies 2 off in HOURS 0, 1 and 2, 2 off in HOUR 3 (DEEP 0)
        due.is("alarm(0, 12, 2)", x.alarm(0, 12, 2), -1);
        due.is("alarm(0, 12, 1)", x.alarm(0, 12, 1), 0);
        due.is("alarm(0, 0, 0)", x.alarm(0, 0, 0), -1);
        x.let(0, 1, 15);
        // 225 less 9 is 216: 14, 2 off; 225: 15, 3 off
        due.is("alarm(0, 12, 2) with 15 out", x.alarm(0, 12, 2), 3);
        due.is("alarm(0, 3, 2) with 15 out", x.alarm(0, 3, 2), -1);
        due.is("alarm(0, 12, 3) with 15 out", x.alarm(0, 12, 3), -1);
        x.goOn(1);
        due.is("alarm(0, 11, 1)", x.alarm(0, 11, 1), 1);
        due.is("alarm(0, 12, 1)", x.alarm(0, 12, 1), -7);
        due.is("alarm(0, -1, 1)", x.alarm(0, -1, 1), -7);
        due.is("alarm(0, 1, 11)", x.alarm(0, 1, 11), -7);
        due.is("alarm(0, 1, -1)", x.alarm(0, 1, -1), -7);
        due.is("alarm(0, 1, 10)", x.alarm(0, 1, 10), -1);
        due.is("alarm(1, 12, 11)", x.alarm(1, 12, 11), -5);
        due.is("alarm(-1, 1, 1)", x.alarm(-1, 1, 1), -5);
        // from where its anchor is now, though it drags; what is gone is beyond every size
        AnchorThatDrags y = new AnchorThatDrags();
        y.boat(0, 900, 70, 5);
        due.is("alarm(0, 12, 0)", y.alarm(0, 12, 0), 0);
        due.is("alarm(0, 12, 1)", y.alarm(0, 12, 1), 1);
        due.is("alarm(0, 12, 2)", y.alarm(0, 12, 2), 2);
        due.is("alarm(0, 12, 10)", y.alarm(0, 12, 10), 2);
        due.is("alarm(0, 2, 10)", y.alarm(0, 2, 10), -1);
        y.goOn(1);
        due.is("alarm(0, 11, 0)", y.alarm(0, 11, 0), 1);
        due.is("alarm(0, 11, 1)", y.alarm(0, 11, 1), 2);
        y.goOn(5);
        due.is("alarm(0, 1, 1)", y.alarm(0, 1, 1), -3);
        due.is("alarm(0, 7, 1)", y.alarm(0, 7, 1), -7);
        due.is("alarm(0, 1, 11)", y.alarm(0, 1, 11), -7);
        // the greater of both ways apart
        AnchorThatDrags z = new AnchorThatDrags();
        z.boat(0, 0, 16, 30);
        z.blow(0, 0, 1);
        due.is("alarm by y", z.alarm(0, 1, 2), 0);
        due.is("alarm by y", z.alarm(0, 1, 3), -1);
        z.blow(0, 0, 6);
        due.is("alarm by x", z.alarm(0, 1, 4), 0);
        due.is("alarm by x", z.alarm(0, 1, 5), -1);
    }

    private static void size() {
        AnchorThatDrags x = new AnchorThatDrags();
        x.boat(0, 400, 44, 15);
        for (int h = 0; h < 12; h++) {
            x.blow(h, 1, h == 3 || h == 5 ? 99 : 10);
        }
        // lies 2 off till HOUR 3, in which it drags on to 3 off
        due.is("size(0, 12, 0)", x.size(0, 12, 0), 2);
        due.is("size(0, 12, 1)", x.size(0, 12, 1), 0);
        due.is("size(0, 3, 0)", x.size(0, 3, 0), 2);
        due.is("size(0, 3, 1)", x.size(0, 3, 1), -1);
        due.is("size(0, 0, 0)", x.size(0, 0, 0), 0);
        due.is("size(0, 0, 1)", x.size(0, 0, 1), -1);
        // HOUR 3 turns it round and lets it drag, but lie 3 off alone, for the tide; in HOUR 4 it lies 4 off again
        for (int h = 3; h < 12; h++) {
            x.blow(h, 0, 4);
        }
        x.let(0, 0, 54);
        x.let(0, 1, 21);
        x.blow(3, 2, 3);
        due.is("size(0, 12, 0)", x.size(0, 12, 0), 4);
        due.is("size(0, 12, 1)", x.size(0, 12, 1), 1);
        due.is("size(0, 4, 1)", x.size(0, 4, 1), -1);
        x.blow(3, 1, 10);
        due.is("size(0, 12, 0) without HOUR 3", x.size(0, 12, 0), 4);
        due.is("size(0, 12, 1) without HOUR 3", x.size(0, 12, 1), 0);
        // the bay's end hides that it drags
        AnchorThatDrags y = new AnchorThatDrags();
        y.boat(0, 900, 54, 40);
        y.blow(0, 1, 0);
        due.is("size(0, 4, 0)", y.size(0, 4, 0), 4);
        due.is("size(0, 4, 1), none", y.size(0, 4, 1), -1);
        due.is("size(0, 6, 1), gone", y.size(0, 6, 1), 4);
        due.is("alarm with it", y.alarm(0, 6, 4), 5);
        // dragging in the first hour of all leaves size 0
        AnchorThatDrags z = new AnchorThatDrags();
        z.boat(0, 900, 44, 40);
        z.goOn(2);
        due.is("size(0, 3, 0)", z.size(0, 3, 0), 0);
        due.is("size(0, 3, 1)", z.size(0, 3, 1), 0);
        due.is("size(0, 11, 0)", z.size(0, 11, 0), -7);
        due.is("size(0, -1, 0)", z.size(0, -1, 0), -7);
        due.is("size(0, 3, 2)", z.size(0, 3, 2), -7);
        due.is("size(0, 3, -1)", z.size(0, 3, -1), -7);
        due.is("size(1, 11, 2)", z.size(1, 11, 2), -5);
        due.is("size(-1, 0, 0)", z.size(-1, 0, 0), -5);
        z.goOn(9);
        due.is("size(0, 1, 0)", z.size(0, 1, 0), -3);
        due.is("size(0, 2, 0)", z.size(0, 2, 0), -7);
    }

    private static void line() {
        AnchorThatDrags x = new AnchorThatDrags();
        due.is("line(0, 1, 10)", x.line(0, 1, 10), 1);
        due.is("line(0, 10, 1)", x.line(0, 10, 1), -1);
        due.is("line(0, 99, 55)", x.line(0, 99, 55), 0);
        due.is("line(0, 9, 99)", x.line(0, 9, 99), 81);
        due.is("line(9, 0, 99)", x.line(9, 0, 99), -81);
        due.is("line(23, 58, 91)", x.line(23, 58, 91), 5 * 7 - 3 * -2);
        due.is("line(40, 50, 23)", x.line(40, 50, 23), -3);
        due.is("line(7, 8, 7)", x.line(7, 8, 7), 0);
        due.is("line(7, 8, 8)", x.line(7, 8, 8), 0);
        due.is("line(7, 7, 8)", x.line(7, 7, 8), -1000000);
        due.is("line(100, 7, 8)", x.line(100, 7, 8), -1000000);
        due.is("line(7, 100, 8)", x.line(7, 100, 8), -1000000);
        due.is("line(7, 8, 100)", x.line(7, 8, 100), -1000000);
        due.is("line(-1, 8, 9)", x.line(-1, 8, 9), -1000000);
        due.is("line(1, -8, 9)", x.line(1, -8, 9), -1000000);
        due.is("line(1, 8, -9)", x.line(1, 8, -9), -1000000);
    }

    private static void marks() {
        AnchorThatDrags x = new AnchorThatDrags();
        x.boat(0, 0, 44, 12);
        // lies in 64, in HOUR 2 in 66, in HOUR 5 in 46
        x.blow(2, 0, 1);
        x.blow(5, 0, 2);
        // marks 40 and 50 up a column: x less by 1 is 1 more
        due.is("marks slip 0", x.marks(0, 12, 4050, 0), 2);
        due.is("marks slip 1", x.marks(0, 12, 4050, 1), 2);
        due.is("marks slip 2", x.marks(0, 12, 4050, 2), -1);
        due.is("marks in 2 HOURS", x.marks(0, 2, 4050, 0), -1);
        // marks 4 and 5 along a row: y less by 1 is 1 less
        due.is("marks along a row", x.marks(0, 12, 405, 1), 5);
        due.is("marks along a row, slip 2", x.marks(0, 12, 405, 2), -1);
        due.is("marks, turned", x.marks(0, 12, 504, 1), 5);
        // 0 and 99: 64 is 99 times 6 less 4 off
        due.is("marks of 0 and 99", x.marks(0, 12, 99, 17), 2);
        due.is("marks of 0 and 99", x.marks(0, 12, 99, 18), 5);
        // from 99 to 90 along a row: 9 times how much lower it lies
        due.is("marks of 99 and 90", x.marks(0, 12, 9990, 17), 5);
        due.is("marks of 99 and 90", x.marks(0, 12, 9990, 18), -1);
        due.is("marks of no HOURS", x.marks(0, 0, 99, 0), -1);
        x.goOn(2);
        // now 66 is the first
        due.is("marks from HOUR 2 on", x.marks(0, 10, 4050, 1), 3);
        due.is("marks from HOUR 2 on, slip 2", x.marks(0, 10, 4050, 2), -1);
        due.is("marks(0, 11, 99, 0)", x.marks(0, 11, 99, 0), -7);
        due.is("marks(0, -1, 99, 0)", x.marks(0, -1, 99, 0), -7);
        due.is("marks(0, 1, 10000, 0)", x.marks(0, 1, 10000, 0), -7);
        due.is("marks(0, 1, -1, 0)", x.marks(0, 1, -1, 0), -7);
        due.is("marks(0, 1, 0, 0)", x.marks(0, 1, 0, 0), -7);
        due.is("marks(0, 1, 4444, 0)", x.marks(0, 1, 4444, 0), -7);
        due.is("marks(0, 1, 9999, 0)", x.marks(0, 1, 9999, 0), -7);
        due.is("marks(0, 1, 99, 100)", x.marks(0, 1, 99, 100), -7);
        due.is("marks(0, 1, 99, -1)", x.marks(0, 1, 99, -1), -7);
        due.is("marks(1, 11, 0, 100)", x.marks(1, 11, 0, 100), -5);
        due.is("marks(-1, 1, 99, 0)", x.marks(-1, 1, 99, 0), -5);
        due.is("marks(0, 1, 9900, 99)", x.marks(0, 1, 9900, 99), -1);
        // what is gone
        AnchorThatDrags y = new AnchorThatDrags();
        y.boat(0, 900, 74, 5);
        due.is("marks till it is gone", y.marks(0, 12, 10, 99), 2);
        due.is("marks till it is gone", y.marks(0, 2, 10, 99), -1);
        y.goOn(3);
        due.is("marks of one that is gone", y.marks(0, 4, 10, 99), 3);
        due.is("marks of one that is gone", y.marks(0, 0, 10, 99), -1);
        y.let(0, 0, 94);
        due.is("marks of one gone in the first", y.marks(0, 4, 10, 99), 3);
    }
}
