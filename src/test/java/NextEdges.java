/** The terms of acts, two anchors and parts, promises 28 to 31. */
final class NextEdges {
    private static final long NO = AnchorThatDrags.NO;
    private static final int[] ALL_INTS = {Integer.MIN_VALUE, -2, -1, 0, 1, 2, 3, 11, 12, Integer.MAX_VALUE};

    private NextEdges() {
    }

    static void all(Edges e) {
        hours(e);
        acts(e);
        harm(e);
        next(e);
        two(e);
        angle(e);
        turns(e);
    }

    private static void due(Edges t, AnchorThatDrags x, int ahead, int act, int all) {
        t.is(x.next(0, ahead, 0), act);
        t.is(x.next(0, ahead, 1), all);
    }

    /** A boat of the kind in 44 with 15 out, of DEEP 5, so that POWER is what the kind makes of hold. */
    private static AnchorThatDrags pulled(int kind, String pull, int hold) {
        AnchorThatDrags x = Scenes.under("pull " + pull + ";hold " + hold + ";jerk 0;");
        x.boat(kind, 0, 44, 15);
        return x;
    }

    private static void hours(Edges e) {
        e.terms("in each HOUR from NOW on, as many as told (not beyond 11), one ACT:", t -> {
            // 5 for each hour in which it drags, from 44 by 0; away is 9
            AnchorThatDrags x = pulled(0, "999", 0);
            due(t, x, 1, 0, 5);
            due(t, x, 2, 4, 9);
            due(t, x, 4, 4, 9);
            x.goOn(10);
            x.let(0, 0, 44);
            due(t, x, 1, 0, 5);
            for (int ahead = 2; ahead <= 4; ahead++) {
                due(t, x, ahead, 4, 9);
            }
            x.goOn(1);
            x.let(0, 0, 44);
            for (int ahead = 1; ahead <= 4; ahead++) {
                due(t, x, ahead, 0, 5);
            }
            // HOUR 11 itself counts, and no hour that has passed
            AnchorThatDrags y = pulled(0, "wind", 60);
            y.blow(11, 1, 99);
            y.blow(7, 1, 99);
            y.goOn(7);
            y.let(0, 0, 44);
            y.blow(6, 1, 99);
            y.goOn(1);
            y.let(0, 0, 44);
            due(t, y, 3, 0, 0);
            due(t, y, 4, 0, 2);
        });
    }

    private static void acts(Edges e) {
        e.terms("0 none (costs 0);", t -> {
            due(t, pulled(0, "0", 0), 4, 0, 0);
            due(t, pulled(0, "100", 100), 4, 0, 0);
            due(t, pulled(2, "999", 0), 1, 0, 0);
        });
        e.terms("1 OUT 5 more from then on (40 at most; 1);", t -> {
            // hold is as much as OUT, DEEP 0
            AnchorThatDrags x = Scenes.under("pull 40;hold out;jerk 0;");
            x.boat(0, 0, 44, 35);
            x.sound(44, 0, 0);
            due(t, x, 1, 1, 1);
            // from then on
            due(t, x, 4, 1, 1);
            x.let(0, 1, 39);
            due(t, x, 4, 1, 1);
            x.let(0, 1, 40);
            due(t, x, 4, 0, 0);
            // 5 more than 34 is 39: too little
            x.let(0, 1, 34);
            due(t, x, 1, 2, 2);
            // 40 at most: 41 is beyond it
            x.force(Scenes.text(x, "pull 41;hold out;jerk 0;"));
            x.let(0, 1, 36);
            due(t, x, 1, 2, 2);
            x.let(0, 1, 40);
            due(t, x, 1, 2, 2);
            // asked, it is as it was
            t.is(x.boatTold(0, 5), 40);
            // twice: 10 more by the second hour, by nothing else held
            AnchorThatDrags twice = Scenes.under("pull wind*10;hold out*20;jerk 0;");
            twice.boat(0, 0, 44, 10);
            twice.sound(44, 0, 0);
            twice.blow(0, 1, 0);
            twice.blow(1, 1, 40);
            due(t, twice, 2, 1, 2);
            twice.blow(1, 1, 41);
            due(t, twice, 2, 0, 5);
        });
        e.terms("2 PULL 40 less in that HOUR (2);", t -> {
            due(t, pulled(0, "140", 100), 1, 2, 2);
            due(t, pulled(0, "141", 100), 1, 3, 4);
            due(t, pulled(0, "40", 0), 1, 2, 2);
            // in that hour alone: two hours are twice 2, three once 4
            due(t, pulled(0, "140", 100), 2, 2, 4);
            due(t, pulled(0, "140", 100), 3, 3, 4);
        });
        e.terms("3 POWER 50 more from then on (4);", t -> {
            due(t, pulled(0, "150", 100), 1, 3, 4);
            due(t, pulled(0, "150", 100), 4, 3, 4);
            due(t, pulled(0, "151", 100), 1, 0, 5);
            // on top of what the kind and too little out make of hold: 75 and 50; 18, with 5 more out 37, and 50
            due(t, pulled(1, "125", 50), 1, 3, 4);
            due(t, pulled(1, "126", 50), 1, 0, 5);
            AnchorThatDrags x = pulled(3, "68", 75);
            x.let(0, 1, 15);
            due(t, x, 1, 3, 4);
            x.force(Scenes.text(x, "pull 69;hold 75;jerk 0;"));
            due(t, x, 1, 0, 5);
            // twice 50
            AnchorThatDrags y = pulled(0, "wind", 0);
            y.blow(0, 1, 50);
            y.blow(1, 1, 99);
            y.blow(2, 1, 99);
            y.blow(3, 1, 99);
            due(t, y, 4, 3, 8);
        });
        e.terms("4 away: nothing more comes (9).", t -> {
            // once 9, however many hours
            AnchorThatDrags x = pulled(0, "999", 0);
            for (int ahead = 2; ahead <= 4; ahead++) {
                due(t, x, ahead, 4, 9);
            }
            // in a later hour: none, then away
            AnchorThatDrags y = pulled(0, "wind*100", 0);
            y.blow(0, 1, 0);
            due(t, y, 1, 0, 0);
            due(t, y, 2, 0, 5);
            due(t, y, 3, 0, 9);
            due(t, y, 4, 0, 9);
        });
    }

    private static void harm(Edges e) {
        e.terms("Then the HOUR passes for it: HARM 5, if its anchor goes a CELL on; 50 instead, and nothing more comes, if it is gone by that.", t -> {
            due(t, pulled(0, "999", 0), 1, 0, 5);
            AnchorThatDrags x = pulled(0, "999", 0);
            // to the last row: 5; out of the bay: 50, or away
            x.let(0, 0, 84);
            due(t, x, 1, 0, 5);
            due(t, x, 2, 4, 9);
            x.let(0, 0, 94);
            due(t, x, 1, 4, 9);
            due(t, x, 4, 4, 9);
            // by 40 less or 50 more it stays
            x.force(Scenes.text(x, "pull 40;hold 0;jerk 0;"));
            due(t, x, 1, 2, 2);
            x.force(Scenes.text(x, "pull 50;hold 0;jerk 0;"));
            due(t, x, 1, 3, 4);
            x.force(Scenes.text(x, "pull 51;hold 0;jerk 0;"));
            due(t, x, 1, 4, 9);
            // breaking out is going on, which no act but away is against
            AnchorThatDrags y = pulled(4, "0", 999);
            y.blow(1, 0, 1);
            due(t, y, 1, 0, 0);
            due(t, y, 2, 0, 5);
            y.let(0, 0, 94);
            due(t, y, 2, 0, 9);
            // harm once, then it holds where it has come to
            AnchorThatDrags z = pulled(0, "999*(deep=5)", 0);
            z.sound(54, 0, 4);
            z.let(0, 1, 12);
            due(t, z, 4, 0, 5);
        });
        e.terms("The least of all HARM and costs together.", t -> {
            due(t, pulled(0, "0", 0), 4, 0, 0);
            // letting out at 1 and easing at 2 together are less than strengthening at 4
            AnchorThatDrags x = pulled(0, "100", 90);
            x.let(0, 1, 14);
            // POWER 84; of OUT 15 it is 90: easing 2, in two hours 4
            due(t, x, 1, 2, 2);
            due(t, x, 2, 2, 4);
            due(t, x, 3, 3, 4);
        });
    }

    private static void next(Edges e) {
        e.promise(28, "WHAT NEXT, so many HOURS ahead (1 .. 4):", t -> {
            // drags in the fourth hour alone
            AnchorThatDrags x = pulled(0, "wind", 50);
            x.blow(3, 1, 60);
            x.blow(4, 1, 99);
            due(t, x, 1, 0, 0);
            due(t, x, 3, 0, 0);
            due(t, x, 4, 0, 2);
        });
        e.promise(28, "what 0 the first ACT (of like ones the least), 1 all HARM and costs.", t -> {
            // 2 in each of two hours and 4 once are alike: the lesser act
            due(t, pulled(0, "140", 100), 2, 2, 4);
            // 4 at once or in the next hour: none comes first
            AnchorThatDrags x = pulled(0, "wind", 10);
            x.blow(0, 1, 0);
            x.blow(1, 1, 60);
            due(t, x, 2, 0, 4);
            // 9 at once, or 5 and 4 by another: the lesser act
            AnchorThatDrags y = pulled(0, "wind*9", 0);
            y.blow(0, 1, 99);
            y.blow(1, 1, 5);
            due(t, y, 2, 0, 9);
            y.blow(2, 1, 5);
            due(t, y, 3, 0, 9);
        });
        e.promise(28, "-5: no such BOAT;", t -> t.refusedFor(-5, Scenes.NO_BOATS, (x, i) -> x.next(i, 1, 0)));
        e.promise(28, "-7: ahead, what;", t -> {
            t.refusedFor(-7, Scenes.beyond(1, 4), (x, ahead) -> x.next(0, ahead, 0));
            t.refusedFor(-7, Scenes.beyond(1, 4), (x, ahead) -> x.next(0, ahead, 1));
            t.refusedFor(-7, Scenes.beyond(0, 1), (x, what) -> x.next(0, 1, what));
            // of NOW 11 4 are as told, 5 aren't
            t.isNot(atLast().next(0, 4, 0), -7);
            t.refusedFor(-7, Scenes.FULL, Scenes.beyond(1, 4), (x, ahead) -> x.next(0, ahead, 0));
        });
        e.promise(28, "STATE: it is gone.", t -> {
            t.refused(-3, x -> x.next(Scenes.GONE, 1, 0));
            t.refused(-3, x -> x.next(Scenes.GONE, 4, 1));
        });
        e.promise(28, "-5: no such BOAT; -7: ahead, what; STATE: it is gone.", t -> {
            t.refused(-5, x -> x.next(4, 5, 2));
            t.refused(-7, x -> x.next(Scenes.GONE, 0, 0));
            t.refused(-7, x -> x.next(Scenes.GONE, 1, 2));
        });
    }

    private static AnchorThatDrags atLast() {
        AnchorThatDrags x = new AnchorThatDrags();
        Scenes.at(11).on(x);
        return x;
    }

    private static void two(Edges e) {
        e.terms("each bears of PULL 50, 54, 71, 131 of a hundred (cut), if they are 0, 1, 2, 3 WAYS apart.", t -> {
            int[] pull = {0, 1, 2, 99, 100, 999};
            int[][] bears = {{0, 0, 0, 0}, {0, 0, 0, 1}, {1, 1, 1, 2}, {49, 53, 70, 129}, {50, 54, 71, 131}, {499, 539, 709, 1308}};
            for (int k = 0; k < pull.length; k++) {
                AnchorThatDrags x = pulled(0, "" + pull[k], 0);
                for (int ways = 0; ways < 4; ways++) {
                    t.is(x.two(0, 0, ways, 0), bears[k][ways]);
                }
            }
        });
        e.promise(29, "TWO anchors of a BOAT, where its own is, 0 .. 3 WAYS apart, in an HOUR:", t -> {
            AnchorThatDrags x = pulled(0, "wind", 10);
            x.blow(0, 1, 0);
            x.blow(11, 1, 99);
            t.is(x.two(0, 0, 3, 0), 0);
            t.is(x.two(0, 11, 0, 0), 49);
            t.is(x.two(0, 11, 3, 0), 129);
            // where its own is, though it drags by then
            AnchorThatDrags y = Scenes.under("pull deep*20;hold 0;jerk 0;");
            y.boat(0, 0, 44, 15);
            y.sound(54, 0, 30);
            t.is(y.two(0, 11, 0, 0), 50);
        });
        e.promise(29, "1 whether that is not above POWER (1, 0).", t -> {
            // 131 of a hundred of 100 against 130, 131, 132; of 999 and of 0
            t.is(pulled(0, "100", 130).two(0, 0, 3, 1), 0);
            t.is(pulled(0, "100", 131).two(0, 0, 3, 1), 1);
            t.is(pulled(0, "100", 132).two(0, 0, 3, 1), 1);
            t.is(pulled(0, "100", 49).two(0, 0, 0, 1), 0);
            t.is(pulled(0, "100", 50).two(0, 0, 0, 1), 1);
            t.is(pulled(0, "0", 0).two(0, 0, 3, 1), 1);
            t.is(pulled(0, "1", 0).two(0, 0, 2, 1), 1);
            t.is(pulled(0, "1", 0).two(0, 0, 3, 1), 0);
        });
        e.promise(29, "-5: no such BOAT;", t -> t.refusedFor(-5, Scenes.NO_BOATS, (x, i) -> x.two(i, 0, 0, 0)));
        e.promise(29, "-7: HOUR, ways, what;", t -> {
            t.refusedFor(-7, Scenes.NO_HOURS, (x, h) -> x.two(0, h, 0, 0));
            t.refusedFor(-7, Scenes.NO_HOURS, (x, h) -> x.two(0, h, 3, 1));
            t.refusedFor(-7, Scenes.beyond(0, 3), (x, ways) -> x.two(0, 0, ways, 0));
            t.refusedFor(-7, Scenes.beyond(0, 3), (x, ways) -> x.two(0, 0, ways, 1));
            t.refusedFor(-7, Scenes.beyond(0, 1), (x, what) -> x.two(0, 0, 0, what));
        });
        e.promise(29, "STATE: it is gone.", t -> {
            t.refused(-3, x -> x.two(Scenes.GONE, 0, 0, 0));
            t.refused(-3, x -> x.two(Scenes.GONE, 11, 3, 1));
        });
        e.promise(29, "-5: no such BOAT; -7: HOUR, ways, what; STATE: it is gone.", t -> {
            t.refused(-5, x -> x.two(4, 12, 4, 2));
            t.refused(-7, x -> x.two(Scenes.GONE, 12, 0, 0));
            t.refused(-7, x -> x.two(Scenes.GONE, 0, 4, 0));
            t.refused(-7, x -> x.two(Scenes.GONE, 0, 0, 2));
        });
    }

    private static void angle(Edges e) {
        e.promise(30, "The most WAYS by which that is so in each of n HOURS;", t -> {
            int[] hold = {49, 50, 53, 54, 70, 71, 130, 131, 999};
            int[] most = {-1, 0, 0, 1, 1, 2, 2, 3, 3};
            for (int k = 0; k < hold.length; k++) {
                AnchorThatDrags x = pulled(0, "100", hold[k]);
                t.is(x.angle(0, 1), most[k]);
                t.is(x.angle(0, 12), most[k]);
                t.is(x.angle(0, 0), 3);
            }
            // in the last of them, not behind it; nor ahead of NOW
            AnchorThatDrags y = pulled(0, "wind", 60);
            y.blow(11, 1, 99);
            t.is(y.angle(0, 11), 3);
            t.is(y.angle(0, 12), 1);
            y.goOn(11);
            y.let(0, 0, 44);
            t.is(y.angle(0, 1), 1);
            y.blow(10, 1, 99);
            y.blow(11, 1, 20);
            t.is(y.angle(0, 1), 3);
        });
        e.promise(30, "-1: none.", t -> {
            t.is(pulled(0, "100", 0).angle(0, 1), -1);
            t.is(pulled(0, "100", 0).angle(0, 0), 3);
            AnchorThatDrags y = pulled(0, "wind", 49);
            y.blow(0, 1, 99);
            t.is(y.angle(0, 1), 0);
            y.force(Scenes.text(y, "pull wind;hold 48;jerk 0;"));
            t.is(y.angle(0, 12), -1);
        });
        e.promise(30, "-5: no such BOAT;", t -> t.refusedFor(-5, Scenes.NO_BOATS, (x, i) -> x.angle(i, 1)));
        e.promise(30, "-7: n;", t -> {
            t.nights(-7, (x, n) -> x.angle(0, n));
            t.refusedFor(-7, Scenes.NO_NIGHTS, (x, n) -> x.angle(0, n));
        });
        e.promise(30, "STATE: it is gone.", t -> {
            t.refused(-3, x -> x.angle(Scenes.GONE, 0));
            t.refused(-3, x -> x.angle(Scenes.GONE, 10));
        });
        e.promise(30, "-5: no such BOAT; -7: n; STATE: it is gone.", t -> {
            t.refused(-5, x -> x.angle(4, 11));
            t.refused(-7, x -> x.angle(Scenes.GONE, 11));
        });
    }

    private static void turns(Edges e) {
        e.terms("PARTS are of one whole, 1000000 (all quotients are cut, one by one).", t -> {
            // jerk 1, turns of 4 in each hour but 0: 990000, 980100, 970299, 960596 (.01), 950990 (.04), ..
            AnchorThatDrags x = Scenes.under("pull 0;hold 0;jerk 1;");
            x.boat(0, 0, 44, 15);
            for (int h = 1; h < 12; h += 2) {
                x.blow(h, 0, 4);
            }
            long[] parts = {1000000, 1000000, 990000, 980100, 970299, 960596, 950990, 941480, 932065, 922744, 913516, 904380, 895336};
            for (int n = 0; n <= 12; n++) {
                t.is(x.turns(0, n), parts[n]);
            }
        });
        e.promise(31, "1000000, for each of n HOURS in which the wind turns by 3 WAYS or more times (100 less jerk, where its anchor is NOW) by 100.", t -> {
            // turns of 2, 3 and 4, jerk 0, 50 and 100
            long[][] parts = {{1000000, 1000000, 1000000}, {1000000, 500000, 0}, {1000000, 500000, 0}};
            for (int turn = 2; turn <= 4; turn++) {
                for (int k = 0; k < 3; k++) {
                    AnchorThatDrags x = Scenes.under("pull 0;hold 0;jerk " + 50 * k + ";");
                    x.boat(0, 0, 44, 15);
                    x.blow(1, 0, turn);
                    x.blow(2, 0, turn);
                    t.is(x.turns(0, 1), 1000000);
                    t.is(x.turns(0, 2), parts[turn - 2][k]);
                    t.is(x.turns(0, 0), 1000000);
                }
            }
            // 3 round the lesser way: 7 and 2, not 5
            AnchorThatDrags y = Scenes.under("pull 999;hold 0;jerk deep;");
            y.boat(0, 0, 44, 15);
            y.blow(0, 0, 7);
            y.blow(1, 0, 2);
            for (int h = 2; h < 12; h++) {
                y.blow(h, 0, 2);
            }
            t.is(y.turns(0, 12), 950000);
            // where its anchor is NOW, though it drags in HOUR 0 to 53, where it is deep
            y.sound(53, 0, 30);
            t.is(y.night(1, 0, 0), 53);
            t.is(y.turns(0, 12), 950000);
            y.goOn(1);
            t.is(y.turns(0, 11), 700000);
        });
        e.promise(31, "NO: BOAT, n;", t -> {
            t.refusedFor(NO, Scenes.NO_BOATS, (x, i) -> x.turns(i, 1));
            t.nights(NO, (x, n) -> x.turns(0, n));
            t.refusedFor(NO, Scenes.NO_NIGHTS, (x, n) -> x.turns(0, n));
            t.refusedFor(NO, Scenes.NEW, ALL_INTS, (x, i) -> x.turns(i, 0));
        });
        e.promise(31, "STATE: it is gone.", t -> {
            t.refused(-3, x -> x.turns(Scenes.GONE, 0));
            t.refused(-3, x -> x.turns(Scenes.GONE, 10));
        });
        e.promise(31, "NO: BOAT, n; STATE: it is gone.", t -> {
            t.refused(NO, x -> x.turns(Scenes.GONE, 11));
            t.refused(NO, x -> x.turns(Scenes.GONE, -1));
        });
    }
}
