/** The terms of boats and kinds, promises 11 to 14. */
final class BoatEdges {
    private static final int BOAT = 0, DUG = 1, PLOUGH = 2, FOULED = 3, ROCKED = 4, DOUBLED = 5;

    private BoatEdges() {
    }

    static void all(Edges e) {
        numbers(e);
        liesOff(e);
        power(e);
        kinds(e);
        turns(e);
        boat(e);
        let(e);
        boatTold(e);
        hold(e);
        scope(e);
    }

    private static void numbers(Edges e) {
        e.terms("BOATS are numbered from 0 on, 6 at most:", t -> {
            AnchorThatDrags x = new AnchorThatDrags();
            for (int i = 0; i < 6; i++) {
                t.is(x.boatTold(i, 0), -5);
                t.is(x.boat(i, 0, i, 1), i);
                t.is(x.boatTold(i, 0), i);
            }
            t.is(x.boat(0, 0, 0, 1), -4);
            t.is(x.boatTold(6, 0), -5);
            t.is(x.count(1), 6);
        });
        e.terms("AREA, HEAVY, MORE (0 .. 9 each)", t -> {
            AnchorThatDrags x = new AnchorThatDrags();
            int[] what = {0, 999, 900, 90, 9};
            int[][] told = {{0, 0, 0}, {9, 9, 9}, {9, 0, 0}, {0, 9, 0}, {0, 0, 9}};
            for (int i = 0; i < what.length; i++) {
                t.is(x.boat(0, what[i], 0, 1), i);
                for (int k = 0; k < 3; k++) {
                    t.is(x.boatTold(i, 1 + k), told[i][k]);
                }
            }
            t.refusedFor(-2, Scenes.beyond(0, 999), (y, v) -> y.boat(0, v, 0, 1));
        });
        e.terms("THE CELL of its anchor (or it is gone, ashore)", t -> {
            AnchorThatDrags x = new AnchorThatDrags();
            t.is(x.boat(0, 0, 0, 1), 0);
            t.is(x.boat(0, 900, 99, 1), 1);
            t.is(x.boatTold(0, 4), 0);
            t.is(x.boatTold(1, 4), 99);
            x.goOn(1);
            t.is(x.boatTold(0, 4), 0);
            t.is(x.boatTold(1, 4), -1);
            t.is(x.boatTold(1, 0), 0);
            t.is(x.count(1), 2);
        });
        e.terms("how much is OUT (1 .. 40).", t -> {
            AnchorThatDrags x = new AnchorThatDrags();
            t.is(x.boat(0, 0, 44, 1), 0);
            t.is(x.boat(0, 0, 44, 40), 1);
            t.is(x.boatTold(0, 5), 1);
            t.is(x.boatTold(1, 5), 40);
            t.is(x.let(0, 1, 40), 1);
            t.is(x.let(0, 1, 1), 40);
            t.refusedFor(-2, Scenes.beyond(1, 40), (y, v) -> y.boat(0, 0, 44, v));
            t.refusedFor(-7, Scenes.beyond(1, 40), (y, v) -> y.let(0, 1, v));
        });
    }

    private static void liesOff(Edges e) {
        e.terms("as many CELLS as the root (cut) of OUT times OUT less DEEP times DEEP by 5 (cut; 0, if OUT is not above DEEP)", t -> {
            // OUT, DEEP, how many: the squares' difference is written behind
            int[][] cases = {
                {1, 30, 0}, {29, 30, 0}, {30, 30, 0}, {5, 5, 0}, {4, 5, 0}, {1, 1, 0},
                {6, 5, 0},      // 11
                {7, 5, 0},      // 24: 4
                {8, 5, 1},      // 39: 6
                {5, 0, 1},      // 25: 5
                {4, 0, 0},      // 16
                {5, 1, 0},      // 24: 4
                {13, 12, 1},    // 25: 5
                {12, 11, 0},    // 23: 4
                {10, 0, 2},     // 100: 10
                {10, 1, 1},     // 99: 9
                {25, 7, 4},     // 576: 24
                {25, 0, 5},     // 625: 25
                {25, 1, 4},     // 624: 24
                {26, 10, 4},    // 576: 24
                {31, 30, 1},    // 61: 7
                {40, 30, 5},    // 700: 26
                {40, 24, 6},    // 1024: 32
                {40, 1, 7},     // 1599: 39
                {40, 0, 8},     // 1600: 40
                {1, 0, 0},      // 1
            };
            AnchorThatDrags x = new AnchorThatDrags();
            x.boat(0, 0, 4, 5);
            for (int[] c : cases) {
                x.sound(4, 0, c[1]);
                x.let(0, 1, c[0]);
                t.is(x.hold(0, 0, 2), c[2]);
                t.is(x.night(1, 0, 3), 4 + 10 * c[2]);
            }
            // DEEP, not DEPTH
            x.sound(4, 0, 30);
            x.blow(0, 2, 3);
            x.let(0, 1, 33);
            t.is(x.hold(0, 0, 2), 0);
            x.let(0, 1, 34);
            t.is(x.hold(0, 0, 2), 1);
            x.sound(4, 0, 2);
            x.blow(0, 2, -3);
            x.let(0, 1, 5);
            t.is(x.hold(0, 0, 2), 1);
        });
        e.terms("as far as THE BAY goes (the most of these that is within).", t -> {
            AnchorThatDrags x = new AnchorThatDrags();
            // 7 off: from the middle, from corners, from edges
            x.boat(0, 0, 0, 40);
            int[] from = {66, 33, 0, 9, 90, 99, 49, 94};
            int[][] lies = {
                {96, 99, 69, 39, 6, 0, 60, 93},
                {93, 99, 39, 6, 3, 0, 30, 60},
                {70, 77, 7, 0, 0, 0, 0, 0},
                {79, 9, 9, 9, 9, 9, 2, 72},
                {90, 90, 97, 27, 20, 90, 90, 90},
                {99, 99, 99, 99, 29, 22, 92, 99},
                {99, 49, 49, 49, 9, 5, 42, 94},
                {94, 94, 99, 49, 24, 50, 90, 94}};
            for (int k = 0; k < from.length; k++) {
                x.let(0, 0, from[k]);
                for (int way = 0; way < 8; way++) {
                    x.blow(0, 0, way);
                    t.is(x.night(1, 0, 3), lies[k][way]);
                }
                t.is(x.hold(0, 0, 2), 7);
            }
            // just within, and one less
            x.blow(0, 0, 0);
            x.let(0, 0, 20);
            t.is(x.night(1, 0, 3), 90);
            x.let(0, 0, 30);
            t.is(x.night(1, 0, 3), 90);
            x.let(0, 0, 10);
            t.is(x.night(1, 0, 3), 80);
        });
    }

    private static int powerOf(int kind, int more, int hold, int out) {
        AnchorThatDrags x = Scenes.under("pull 0;hold " + hold + ";jerk 0;");
        x.boat(kind, more, 44, out);
        return x.hold(0, 0, 1);
    }

    private static void power(Edges e) {
        e.terms("if OUT is less than 3 times DEEP, that times OUT by 3 times DEEP (cut).", t -> {
            t.is(powerOf(BOAT, 0, 61, 15), 61);
            t.is(powerOf(BOAT, 0, 61, 16), 61);
            t.is(powerOf(BOAT, 0, 61, 40), 61);
            t.is(powerOf(BOAT, 0, 61, 14), 56);
            t.is(powerOf(BOAT, 0, 61, 1), 4);
            t.is(powerOf(BOAT, 0, 14, 1), 0);
            t.is(powerOf(BOAT, 0, 15, 1), 1);
            t.is(powerOf(BOAT, 0, 999, 14), 932);
            // what the kind makes of hold is cut ahead of it: 91 times 7 by 15, 15 times 7 by 15
            t.is(powerOf(DUG, 0, 61, 7), 42);
            t.is(powerOf(FOULED, 0, 61, 7), 7);
            t.is(powerOf(DOUBLED, 3, 61, 7), 56);
            // DEEP 0: no OUT is less
            AnchorThatDrags x = new AnchorThatDrags();
            x.boat(0, 0, 44, 1);
            x.sound(44, 0, 3);
            x.blow(0, 2, -3);
            t.is(x.hold(0, 0, 1), 60);
            x.sound(44, 0, 0);
            t.is(x.hold(0, 0, 1), 60);
            x.sound(44, 0, 4);
            t.is(x.hold(0, 0, 1), 20);
            x.let(0, 1, 2);
            t.is(x.hold(0, 0, 1), 40);
            x.let(0, 1, 3);
            t.is(x.hold(0, 0, 1), 60);
            // DEEP 33: of 99
            x.sound(44, 0, 30);
            x.blow(0, 2, 3);
            x.let(0, 1, 40);
            t.is(x.hold(0, 0, 1), 24);
        });
        e.terms("in which HOURS it DRAGS, pulled beyond that,", t -> {
            AnchorThatDrags x = Scenes.under("pull wind;hold 60;jerk 0;");
            x.boat(0, 0, 4, 15);
            x.blow(0, 1, 60);
            t.is(x.hold(0, 0, 0), 60);
            t.is(x.hold(0, 0, 1), 60);
            t.is(x.night(1, 0, 1), 0);
            x.blow(0, 1, 61);
            t.is(x.night(1, 0, 1), 1);
            x.blow(0, 1, 59);
            t.is(x.night(1, 0, 1), 0);
            // 0 is not beyond 0, 1 is
            x.force(Scenes.text(x, "pull wind;hold 0;jerk 0;"));
            x.blow(0, 1, 0);
            t.is(x.night(1, 0, 1), 0);
            x.blow(0, 1, 1);
            t.is(x.night(1, 0, 1), 1);
        });
    }

    /** The hours in which a boat of the kind, pulled hard or not at all, drags, the way turning by 4 in hour 6. */
    private static int hoursOfDragging(int kind, int more, boolean pulled) {
        int bits = 0;
        for (int h = 0; h < 12; h++) {
            AnchorThatDrags x = Scenes.under(pulled ? "pull 999;hold 0;jerk 0;" : "pull 0;hold 0;jerk 0;");
            for (int k = 6; k < 12; k++) {
                x.blow(k, 0, 4);
            }
            x.goOn(h);
            x.boat(kind, more, 44, 15);
            bits |= x.night(1, 0, 1) << h;
        }
        return bits;
    }

    private static void kinds(Edges e) {
        e.terms("0 BOAT: as it is; all; none.", t -> {
            t.is(powerOf(BOAT, 9, 0, 15), 0);
            t.is(powerOf(BOAT, 9, 999, 15), 999);
            t.is(hoursOfDragging(BOAT, 0, true), 0xfff);
            t.is(hoursOfDragging(BOAT, 0, false), 0);
        });
        e.terms("1 DUG (a BOAT): 3 times that by 2 (cut).", t -> {
            int[] hold = {0, 1, 2, 3, 61, 998, 999};
            int[] power = {0, 1, 3, 4, 91, 1497, 1498};
            for (int k = 0; k < hold.length; k++) {
                t.is(powerOf(DUG, 9, hold[k], 15), power[k]);
            }
        });
        e.terms("2 PLOUGH (a BOAT): odd HOURS alone.", t -> {
            t.is(hoursOfDragging(PLOUGH, 0, true), 0xaaa);
            // of the night's hours, not of those that are counted from NOW
            AnchorThatDrags x = Scenes.under("pull 999;hold 0;jerk 0;");
            x.boat(PLOUGH, 0, 4, 15);
            x.goOn(1);
            t.is(x.night(1, 0, 1), 1);
            t.is(x.night(1, 0, 2), 1);
            t.is(x.night(2, 0, 1), 1);
            t.is(x.night(3, 0, 1), 2);
        });
        e.terms("3 FOULED (a BOAT): that by 4 (cut).", t -> {
            int[] hold = {0, 1, 3, 4, 7, 8, 999};
            int[] power = {0, 0, 0, 1, 1, 2, 249};
            for (int k = 0; k < hold.length; k++) {
                t.is(powerOf(FOULED, 9, hold[k], 15), power[k]);
            }
        });
        e.terms("4 ROCKED (a DUG): BREAKS OUT at turns of more WAYS than MORE.", t -> {
            for (int turn = 0; turn <= 4; turn++) {
                for (int more = 0; more < 10; more++) {
                    AnchorThatDrags x = new AnchorThatDrags();
                    x.boat(ROCKED, more, 44, 15);
                    x.blow(1, 0, turn);
                    t.is(x.night(2, 0, 1), turn > more ? 1 : 0);
                }
            }
        });
        e.terms("5 DOUBLED (a DUG): 10 times MORE more.", t -> {
            t.is(powerOf(DOUBLED, 0, 60, 15), 90);
            t.is(powerOf(DOUBLED, 1, 60, 15), 100);
            t.is(powerOf(DOUBLED, 9, 60, 15), 180);
            t.is(powerOf(DOUBLED, 9, 0, 15), 90);
            t.is(powerOf(DOUBLED, 9, 999, 15), 1588);
        });
        e.terms("(Whatever isn't told is as of the KIND above.)", t -> {
            // POWER
            t.is(powerOf(PLOUGH, 9, 61, 15), 61);
            t.is(powerOf(ROCKED, 9, 61, 15), 91);
            // the hours in which it drags
            for (int kind : new int[] {DUG, FOULED, ROCKED, DOUBLED}) {
                t.is(hoursOfDragging(kind, 9, kind != DOUBLED), kind == DOUBLED ? 0 : 0xfff);
            }
            // breaking out
            for (int kind : new int[] {BOAT, DUG, PLOUGH, FOULED, DOUBLED}) {
                t.is(hoursOfDragging(kind, 0, false), 0);
            }
            t.is(hoursOfDragging(ROCKED, 3, false), 1 << 6);
            t.is(hoursOfDragging(ROCKED, 4, false), 0);
            t.is(hoursOfDragging(DOUBLED, 0, true), 0xfff);
        });
    }

    private static void turns(Edges e) {
        e.terms("by how many WAYS (round, the lesser way) the WAY is otherwise than in the HOUR ahead (none in HOUR 0).", t -> {
            int[][] ways = {{0, 0, 0}, {7, 7, 0}, {7, 0, 1}, {0, 7, 1}, {0, 6, 2}, {6, 0, 2}, {7, 1, 2}, {0, 5, 3}, {5, 0, 3},
                {7, 2, 3}, {0, 4, 4}, {4, 0, 4}, {7, 3, 4}, {3, 7, 4}, {1, 6, 3}, {6, 1, 3}, {2, 7, 3}, {1, 5, 4}};
            for (int[] w : ways) {
                for (int more = 0; more < 5; more++) {
                    AnchorThatDrags x = new AnchorThatDrags();
                    x.boat(ROCKED, more, 44, 15);
                    for (int h = 0; h < 12; h++) {
                        x.blow(h, 0, h < 3 ? w[0] : w[1]);
                    }
                    // in HOUR 3 alone
                    t.is(x.night(12, 0, 1), w[2] > more ? 1 : 0);
                    t.is(x.night(12, 0, 2), w[2] > more ? 3 : -1);
                }
            }
            // none in HOUR 0, whatever the WAY is in it, in HOUR 1 and in HOUR 11
            AnchorThatDrags x = new AnchorThatDrags();
            x.boat(ROCKED, 0, 44, 15);
            x.blow(0, 0, 4);
            t.is(x.night(1, 0, 1), 0);
            t.is(x.night(2, 0, 2), 1);
            x.blow(0, 0, 0);
            x.blow(11, 0, 4);
            t.is(x.night(1, 0, 1), 0);
            t.is(x.night(12, 0, 2), 11);
            // that of the HOUR that is NOW is told by the one that has passed
            x.goOn(11);
            t.is(x.night(1, 0, 1), 1);
            x.blow(10, 0, 4);
            t.is(x.night(1, 0, 1), 0);
        });
    }

    private static void boat(Edges e) {
        e.promise(11, "A BOAT (what: 100 times AREA, 10 times HEAVY, and MORE; THE CELL; OUT): its number.", t -> {
            AnchorThatDrags x = new AnchorThatDrags();
            t.is(x.boat(0, 0, 0, 1), 0);
            t.is(x.boat(5, 999, 99, 40), 1);
            int[] least = {0, 0, 0, 0, 0, 1};
            int[] most = {5, 9, 9, 9, 99, 40};
            for (int what = 0; what < 6; what++) {
                t.is(x.boatTold(0, what), least[what]);
                t.is(x.boatTold(1, what), most[what]);
            }
            // two may have one cell
            t.is(x.boat(0, 0, 99, 1), 2);
        });
        e.promise(11, "BAD;", t -> {
            t.refusedFor(-2, Scenes.beyond(0, 5), (x, kind) -> x.boat(kind, 0, 0, 1));
            t.refusedFor(-2, Scenes.beyond(0, 999), (x, what) -> x.boat(0, what, 0, 1));
            t.refusedFor(-2, Scenes.NO_CELLS, (x, c) -> x.boat(0, 0, c, 1));
            t.refusedFor(-2, Scenes.beyond(1, 40), (x, out) -> x.boat(0, 0, 0, out));
            // the number is that of the next one that comes
            AnchorThatDrags x = new AnchorThatDrags();
            t.is(x.boat(6, 0, 0, 1), -2);
            t.is(x.boat(0, 0, 0, 1), 0);
        });
        e.promise(11, "FULL.", t -> {
            t.refused(-4, Scenes.FULL, x -> x.boat(0, 0, 0, 1));
            t.refused(-4, Scenes.FULL, x -> x.boat(5, 999, 99, 40));
        });
        e.promise(11, "BAD; FULL.", t -> {
            t.refused(-2, Scenes.FULL, x -> x.boat(6, 0, 0, 1));
            t.refused(-2, Scenes.FULL, x -> x.boat(0, 1000, 0, 1));
            t.refused(-2, Scenes.FULL, x -> x.boat(0, 0, 100, 1));
            t.refused(-2, Scenes.FULL, x -> x.boat(0, 0, 0, 41));
        });
    }

    private static void let(Edges e) {
        e.promise(12, "Of a BOAT what 0 THE CELL (also if it was gone), 1 OUT becomes v: what was.", t -> {
            AnchorThatDrags x = new AnchorThatDrags();
            x.boat(0, 0, 0, 1);
            x.boat(0, 900, 99, 40);
            t.is(x.let(0, 0, 99), 0);
            t.is(x.let(0, 0, 0), 99);
            t.is(x.let(0, 0, 0), 0);
            t.is(x.let(0, 1, 40), 1);
            t.is(x.let(0, 1, 1), 40);
            x.goOn(1);
            t.is(x.boatTold(1, 4), -1);
            // OUT of one that is gone, then its cell
            t.is(x.let(1, 1, 1), 40);
            t.is(x.boatTold(1, 4), -1);
            t.is(x.let(1, 0, 0), -1);
            t.is(x.boatTold(1, 4), 0);
            t.is(x.boatTold(1, 5), 1);
            t.is(x.let(1, 0, 99), 0);
            t.is(x.hold(1, 1, 0), 180);
        });
        e.promise(12, "-5: no such BOAT;", t -> {
            t.refusedFor(-5, Scenes.NO_BOATS, (x, i) -> x.let(i, 0, 0));
            t.refusedFor(-5, Scenes.NO_BOATS, (x, i) -> x.let(i, 1, 1));
            t.refusedFor(-5, Scenes.FULL, Scenes.beyond(0, 5), (x, i) -> x.let(i, 1, 1));
        });
        e.promise(12, "-7: what, v.", t -> {
            t.refusedFor(-7, Scenes.beyond(0, 1), (x, what) -> x.let(0, what, 1));
            t.refusedFor(-7, Scenes.NO_CELLS, (x, v) -> x.let(0, 0, v));
            t.refusedFor(-7, Scenes.NO_CELLS, (x, v) -> x.let(Scenes.GONE, 0, v));
            t.refusedFor(-7, Scenes.beyond(1, 40), (x, v) -> x.let(0, 1, v));
            // 99 is no OUT
            t.refused(-7, x -> x.let(0, 1, 99));
        });
        e.promise(12, "-5: no such BOAT; -7: what, v.", t -> {
            t.refused(-5, x -> x.let(4, 2, 0));
            t.refused(-5, x -> x.let(-1, 0, 100));
        });
    }

    private static void boatTold(Edges e) {
        e.promise(13, "Of a BOAT what 0 KIND, 1 AREA, 2 HEAVY, 3 MORE, 4 THE CELL (-1: gone), 5 OUT.", t -> {
            AnchorThatDrags x = new AnchorThatDrags();
            x.boat(5, 987, 99, 40);
            x.boat(2, 901, 94, 3);
            x.goOn(2);
            int[] there = {5, 9, 8, 7, -1, 40};
            int[] gone = {2, 9, 0, 1, -1, 3};
            x.let(0, 0, 99);
            there[4] = 99;
            for (int what = 0; what < 6; what++) {
                t.is(x.boatTold(0, what), there[what]);
                t.is(x.boatTold(1, what), gone[what]);
            }
        });
        e.promise(13, "-5: no such BOAT;", t -> {
            for (int what = 0; what < 6; what++) {
                int as = what;
                t.refusedFor(-5, Scenes.NO_BOATS, (x, i) -> x.boatTold(i, as));
            }
            t.refusedFor(-5, Scenes.FULL, Scenes.beyond(0, 5), (x, i) -> x.boatTold(i, 0));
        });
        e.promise(13, "-7: what.", t -> {
            t.refusedFor(-7, Scenes.beyond(0, 5), (x, what) -> x.boatTold(0, what));
            t.refusedFor(-7, Scenes.beyond(0, 5), (x, what) -> x.boatTold(Scenes.GONE, what));
        });
        e.promise(13, "-5: no such BOAT; -7: what.", t -> t.refused(-5, x -> x.boatTold(4, 6)));
    }

    private static void hold(Edges e) {
        e.promise(14, "Of a BOAT in an HOUR, its anchor being where it is: what 0 PULL, 1 POWER,", t -> {
            AnchorThatDrags x = new AnchorThatDrags();
            x.boat(0, 300, 44, 15);
            x.blow(0, 1, 0);
            x.blow(11, 1, 99);
            t.is(x.hold(0, 0, 0), 0);
            t.is(x.hold(0, 11, 0), 297);
            t.is(x.hold(0, 0, 1), 60);
            // its anchor drags through the night, but is where it is: in HOUR 11 as well as in one that has passed
            x.sound(54, 0, 30);
            x.blow(1, 1, 99);
            for (int h = 2; h < 11; h++) {
                x.blow(h, 1, 0);
            }
            t.is(x.night(11, 0, 1), 1);
            t.is(x.hold(0, 11, 1), 60);
            x.goOn(11);
            t.is(x.boatTold(0, 4), 54);
            t.is(x.hold(0, 0, 1), 10);
            t.is(x.hold(0, 0, 0), 0);
        });
        e.promise(14, "2 how many CELLS it would LIE off (as if THE BAY had no end)", t -> {
            AnchorThatDrags x = new AnchorThatDrags();
            x.boat(0, 0, 99, 40);
            x.sound(99, 0, 0);
            t.is(x.hold(0, 0, 2), 8);
            t.is(x.night(1, 0, 3), 99);
            x.let(0, 1, 4);
            t.is(x.hold(0, 0, 2), 0);
            x.let(0, 1, 5);
            t.is(x.hold(0, 0, 2), 1);
        });
        e.promise(14, "-5: no such BOAT;", t -> {
            t.refusedFor(-5, Scenes.NO_BOATS, (x, i) -> x.hold(i, 0, 0));
            t.refusedFor(-5, Scenes.FULL, Scenes.beyond(0, 5), (x, i) -> x.hold(i, 0, 3));
        });
        e.promise(14, "-7: HOUR, what;", t -> {
            t.refusedFor(-7, Scenes.NO_HOURS, (x, h) -> x.hold(0, h, 0));
            t.refusedFor(-7, Scenes.NO_HOURS, (x, h) -> x.hold(0, h, 3));
            t.refusedFor(-7, Scenes.beyond(0, 3), (x, what) -> x.hold(0, 0, what));
        });
        e.promise(14, "STATE: it is gone.", t -> {
            for (int what = 0; what < 4; what++) {
                int as = what;
                t.refused(-3, x -> x.hold(Scenes.GONE, 0, as));
                t.refused(-3, x -> x.hold(Scenes.GONE, 11, as));
            }
            // no longer, if it is let to a cell
            AnchorThatDrags x = new AnchorThatDrags();
            Scenes.BUSY.on(x);
            x.let(Scenes.GONE, 0, 44);
            t.is(x.hold(Scenes.GONE, 0, 2), 0);
        });
        e.promise(14, "-5: no such BOAT; -7: HOUR, what; STATE: it is gone.", t -> {
            t.refused(-5, x -> x.hold(4, 12, 4));
            t.refused(-7, x -> x.hold(Scenes.GONE, 12, 0));
            t.refused(-7, x -> x.hold(Scenes.GONE, 0, 4));
        });
    }

    private static void scope(Edges e) {
        e.promise(14, "3 100 times OUT by 3 times DEEP (cut; 100 at most, and if DEEP is 0).", t -> {
            // OUT, DEEP, how much
            int[][] cases = {{15, 5, 100}, {14, 5, 93}, {16, 5, 100}, {40, 5, 100}, {1, 5, 6}, {1, 30, 1}, {2, 30, 2}, {40, 30, 44},
                {1, 0, 100}, {40, 0, 100}, {1, 1, 33}, {2, 1, 66}, {3, 1, 100}, {4, 1, 100}, {39, 13, 100}, {38, 13, 97}};
            AnchorThatDrags x = new AnchorThatDrags();
            x.boat(0, 0, 44, 1);
            for (int[] c : cases) {
                x.sound(44, 0, c[1]);
                x.let(0, 1, c[0]);
                t.is(x.hold(0, 0, 3), c[2]);
            }
            // DEEP, not DEPTH
            x.sound(44, 0, 3);
            x.let(0, 1, 1);
            x.blow(1, 2, -3);
            t.is(x.hold(0, 0, 3), 11);
            t.is(x.hold(0, 1, 3), 100);
            x.sound(44, 0, 0);
            t.is(x.hold(0, 1, 3), 100);
            x.sound(44, 0, 30);
            x.blow(2, 2, 3);
            t.is(x.hold(0, 2, 3), 1);
            x.let(0, 1, 40);
            t.is(x.hold(0, 2, 3), 40);
        });
    }
}
