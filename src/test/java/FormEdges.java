/** The terms of trials, promises 32 to 35. */
final class FormEdges {
    private static final long NO = AnchorThatDrags.NO;

    private FormEdges() {
    }

    static void all(Edges e) {
        terms(e);
        trial(e);
        rate(e);
        form(e);
        joined(e);
    }

    private static void rate(Edges t, AnchorThatDrags x, int form, int ground, long above, long below) {
        t.is(x.rate(form, ground, 0), above);
        t.is(x.rate(form, ground, 1), below);
    }

    private static void terms(Edges e) {
        e.terms("TRIALS of FORMS 0 .. 4 in BEDS: how many there were, how many of them HELD (none at first).", t -> {
            AnchorThatDrags x = new AnchorThatDrags();
            for (int form = 0; form < 5; form++) {
                for (int ground = 0; ground < 4; ground++) {
                    rate(t, x, form, ground, 1, 2);
                    t.is(x.trial(form, ground, 1, 1), 1);
                    rate(t, x, form, ground, 2, 3);
                    t.is(x.trial(form, ground, 0, 1 + 4 * form + ground), 2 + 4 * form + ground);
                }
            }
            // each form has its own in each bed
            for (int form = 0; form < 5; form++) {
                for (int ground = 0; ground < 4; ground++) {
                    int all = 4 + 4 * form + ground;
                    rate(t, x, form, ground, all % 2 == 0 ? 1 : 2, all % 2 == 0 ? all / 2 : all);
                }
            }
            t.refusedFor(-1, Scenes.beyond(0, 4), (y, form) -> y.trial(form, 0, 0, 1));
            t.refusedFor(-1, Scenes.beyond(0, 3), (y, ground) -> y.trial(0, ground, 0, 1));
        });
        e.terms("How likely: (HELD and 1) by (all and 2).", t -> {
            AnchorThatDrags x = new AnchorThatDrags();
            rate(t, x, 0, 0, 1, 2);
            x.trial(0, 0, 0, 1);
            rate(t, x, 0, 0, 1, 3);
            x.trial(0, 0, 2, 2);
            rate(t, x, 0, 0, 3, 5);
            x.trial(1, 0, 99, 99);
            rate(t, x, 1, 0, 100, 101);
            x.trial(2, 0, 0, 99);
            rate(t, x, 2, 0, 1, 101);
        });
    }

    private static void trial(Edges e) {
        e.promise(32, "TRIALS more of a FORM in a BED (1 .. 99, of which 0 .. all HELD): how many there are of these.", t -> {
            AnchorThatDrags x = new AnchorThatDrags();
            t.is(x.trial(0, 0, 0, 1), 1);
            t.is(x.trial(0, 0, 1, 1), 2);
            t.is(x.trial(4, 3, 0, 99), 99);
            t.is(x.trial(4, 3, 99, 99), 198);
            t.is(x.trial(4, 3, 50, 99), 297);
            rate(t, x, 0, 0, 1, 2);
            rate(t, x, 4, 3, 150, 299);
            // others have none
            rate(t, x, 0, 3, 1, 2);
            rate(t, x, 4, 0, 1, 2);
        });
        e.promise(32, "NONE;", t -> {
            t.refusedFor(-1, Scenes.beyond(0, 4), (x, form) -> x.trial(form, 1, 0, 1));
            t.refusedFor(-1, Scenes.beyond(0, 3), (x, ground) -> x.trial(1, ground, 0, 1));
        });
        e.promise(32, "BAD;", t -> {
            t.refusedFor(-2, Scenes.beyond(1, 99), (x, all) -> x.trial(0, 0, 0, all));
            t.refusedFor(-2, Scenes.beyond(0, 1), (x, good) -> x.trial(0, 0, good, 1));
            t.refusedFor(-2, Scenes.beyond(0, 99), (x, good) -> x.trial(0, 0, good, 99));
            t.refusedFor(-2, Scenes.beyond(1, 99), (x, all) -> x.trial(0, 0, all, all));
        });
        e.promise(32, "FULL: above 9999.", t -> {
            t.refused(-4, Scenes.FULL, x -> x.trial(4, 3, 0, 1));
            t.refused(-4, Scenes.FULL, x -> x.trial(4, 3, 99, 99));
            Edges.Scene almost = x -> {
                for (int k = 0; k < 100; k++) {
                    x.trial(0, 0, 0, 99);
                }
                x.trial(0, 0, 0, 97);
            };
            t.refused(-4, almost, x -> x.trial(0, 0, 3, 3));
            AnchorThatDrags x = new AnchorThatDrags();
            almost.on(x);
            t.is(x.trial(0, 0, 3, 3), -4);
            t.is(x.trial(0, 0, 0, 2), 9999);
            t.is(x.trial(0, 0, 1, 1), -4);
            rate(t, x, 0, 0, 1, 10001);
            // of these alone
            t.is(x.trial(0, 1, 99, 99), 99);
            t.is(x.trial(1, 0, 99, 99), 99);
        });
        e.promise(32, "NONE; BAD; FULL: above 9999.", t -> {
            t.refused(-1, Scenes.FULL, x -> x.trial(5, 3, 0, 100));
            t.refused(-1, Scenes.FULL, x -> x.trial(4, 4, 2, 1));
            t.refused(-2, Scenes.FULL, x -> x.trial(4, 3, 0, 100));
            t.refused(-2, Scenes.FULL, x -> x.trial(4, 3, 2, 1));
        });
    }

    private static void rate(Edges e) {
        e.promise(33, "How likely a FORM holds in a BED: part 0 above, 1 below the line, in lowest terms.", t -> {
            AnchorThatDrags x = new AnchorThatDrags();
            // 3 by 6 is 1 by 2, 4 by 6 2 by 3, 5 by 7 as it is
            x.trial(0, 0, 2, 4);
            rate(t, x, 0, 0, 1, 2);
            x.trial(1, 0, 3, 4);
            rate(t, x, 1, 0, 2, 3);
            x.trial(2, 0, 4, 5);
            rate(t, x, 2, 0, 5, 7);
            // the least and the greatest that there may be
            AnchorThatDrags y = new AnchorThatDrags();
            AnchorThatDrags z = new AnchorThatDrags();
            for (int k = 0; k < 101; k++) {
                y.trial(0, 0, 0, 99);
                z.trial(4, 3, 99, 99);
            }
            rate(t, y, 0, 0, 1, 10001);
            rate(t, z, 4, 3, 10000, 10001);
            // 5000 by 10000
            AnchorThatDrags w = new AnchorThatDrags();
            for (int k = 0; k < 100; k++) {
                w.trial(0, 0, k % 2 == 0 ? 50 : 49, 99);
            }
            w.trial(0, 0, 49, 98);
            rate(t, w, 0, 0, 1, 2);
        });
        e.promise(33, "NO: none such.", t -> {
            for (int part = 0; part < 2; part++) {
                int as = part;
                t.refusedFor(NO, Scenes.beyond(0, 4), (x, form) -> x.rate(form, 0, as));
                t.refusedFor(NO, Scenes.beyond(0, 3), (x, ground) -> x.rate(0, ground, as));
            }
            t.refusedFor(NO, Scenes.beyond(0, 1), (x, part) -> x.rate(0, 0, part));
        });
    }

    private static void form(Edges e) {
        e.promise(34, "The FORM that is likeliest to in a BED, of like ones the first.", t -> {
            AnchorThatDrags x = new AnchorThatDrags();
            // all alike
            for (int ground = 0; ground < 4; ground++) {
                t.is(x.form(ground), 0);
            }
            // 1 by 2 as none has been tried, 2 by 4, 3 by 6: alike though by other numbers
            x.trial(3, 0, 1, 2);
            x.trial(4, 0, 2, 4);
            t.is(x.form(0), 0);
            x.trial(0, 0, 0, 1);
            t.is(x.form(0), 1);
            x.trial(1, 0, 0, 1);
            x.trial(2, 0, 0, 1);
            t.is(x.form(0), 3);
            x.trial(3, 0, 0, 1);
            t.is(x.form(0), 4);
            x.trial(4, 0, 0, 99);
            t.is(x.form(0), 3);
            // in that bed alone
            t.is(x.form(1), 0);
            t.is(x.form(3), 0);
            // the last of beds; 9999 by 10001 isn't 10000 by 10001
            AnchorThatDrags y = new AnchorThatDrags();
            for (int k = 0; k < 101; k++) {
                y.trial(0, 3, k == 0 ? 98 : 99, 99);
                y.trial(4, 3, 99, 99);
            }
            t.is(y.form(3), 4);
        });
        e.promise(34, "-5: no such BED.", t -> {
            t.refusedFor(-5, Scenes.beyond(0, 3), AnchorThatDrags::form);
            t.refusedFor(-5, Scenes.NEW, Scenes.beyond(0, 3), AnchorThatDrags::form);
        });
    }

    private static void joined(Edges e) {
        e.promise(35, "The FORM that is, in the BED in which it is least likely to, likeliest to, of like ones the first.", t -> {
            AnchorThatDrags x = new AnchorThatDrags();
            t.is(x.joined(), 0);
            // one bad bed is enough, be it the first or the last; good ones are not
            x.trial(0, 3, 0, 1);
            t.is(x.joined(), 1);
            x.trial(1, 0, 0, 1);
            t.is(x.joined(), 2);
            x.trial(2, 1, 99, 99);
            x.trial(3, 1, 99, 99);
            t.is(x.joined(), 2);
            x.trial(2, 2, 0, 1);
            x.trial(3, 2, 0, 1);
            t.is(x.joined(), 4);
            x.trial(4, 2, 0, 2);
            // 1 by 3 all but the last: the first of them
            t.is(x.joined(), 0);
            // alike by other numbers: 2 by 6
            x.trial(0, 3, 1, 3);
            t.is(x.joined(), 0);
            x.trial(0, 3, 0, 1);
            t.is(x.joined(), 1);
            for (int ground = 0; ground < 4; ground++) {
                x.trial(3, ground, 99, 99);
            }
            t.is(x.joined(), 3);
            // each bed may be the worst; all of them good is better than none tried
            for (int worst = 0; worst < 4; worst++) {
                AnchorThatDrags y = new AnchorThatDrags();
                t.is(y.trial(0, worst, 0, 1), 1);
                t.is(y.joined(), 1);
                for (int ground = 0; ground < 4; ground++) {
                    y.trial(3, ground, 1, ground == worst ? 2 : 1);
                }
                t.is(y.joined(), 1);
                y.trial(3, worst, 1, 1);
                t.is(y.joined(), 3);
            }
        });
    }
}
