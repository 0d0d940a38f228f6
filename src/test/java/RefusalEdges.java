/** The terms of refusals, and of what is asked. */
final class RefusalEdges {
    private static final long NO = AnchorThatDrags.NO;

    private RefusalEdges() {
    }

    static void all(Edges e) {
        first(e);
        numbers(e);
        changeNothing(e);
        asked(e);
    }

    private static void first(Edges e) {
        e.terms("REFUSALS, of several the first one told (a -1 that is an answer comes behind the refusal of a number):", t -> {
            // the first one told: each call's own order has a test by its promise; here the longest ones
            t.refused(-5, x -> x.hold(4, 12, 4));
            t.refused(-7, x -> x.hold(Scenes.GONE, 12, 4));
            t.refused(-2, x -> x.boatsBy(3, 2, -1, 7));
            t.refused(-11, x -> x.boatsBy(3, 2, -1, 6));
            t.refused(-13, x -> x.boatsBy(1, 2, -1, 6));
            t.refused(-12, x -> x.boatsBy(1, 1, -1, 6));
            // each of these would answer -1, were the number as told
            t.refused(-2, Scenes.NEW, x -> x.fleet(13, 0));
            t.refused(-2, Scenes.NEW, x -> x.fleet(-1, 1));
            t.refused(-2, Scenes.NEW, x -> x.hit(13, 0, 0));
            t.refused(-2, Scenes.NEW, x -> x.hit(12, -1, 3));
            t.refused(-2, Scenes.NEW, x -> x.wake(13));
            t.refused(-7, x -> x.night(0, Scenes.GONE, 4));
            t.refused(-7, x -> x.night(11, Scenes.GONE, 0));
            t.refused(-7, x -> x.boatTold(Scenes.GONE, 6));
            t.refused(-7, x -> x.let(Scenes.GONE, 0, 100));
            t.refused(-7, x -> x.marks(Scenes.GONE, 0, 405, 100));
            t.refused(-7, x -> x.drawn(0, 11, Scenes.GONE, 0));
            t.refused(-2, x -> x.film(Scenes.GONE, 4, 1));
            t.refused(-2, x -> x.judge(Scenes.GONE, 4));
            Edges.Scene pulled = x -> {
                x.boat(0, 900, 44, 1);
                x.chart(0, 99, 1, 3);
            };
            t.refused(-7, pulled, x -> x.veer(0, 13));
            t.refused(-7, pulled, x -> x.drop(0, 1, 2));
            t.refused(-7, pulled, x -> x.drop(0, 13, 0));
            t.refused(-7, pulled, x -> x.angle(0, 13));
            t.refused(-7, pulled, x -> x.alarm(0, 0, 11));
            t.refused(-7, pulled, x -> x.size(0, 0, 2));
            // as told they are -1
            AnchorThatDrags x = new AnchorThatDrags();
            pulled.on(x);
            t.is(x.veer(0, 12), -1);
            t.is(x.drop(0, 1, 0), -1);
            t.is(x.angle(0, 1), -1);
            t.is(x.alarm(0, 0, 10), -1);
            t.is(x.size(0, 0, 1), -1);
            t.is(x.fleet(0, 0), -1);
            t.is(x.wake(12), -1);
        });
    }

    private static void numbers(Edges e) {
        e.terms("NONE there is no such thing; BAD a number is not as told; STATE as told; FULL.", t -> {
            t.is(new AnchorThatDrags().hit(12, 0, 0), AnchorThatDrags.NONE);
            t.is(new AnchorThatDrags().trial(5, 0, 0, 1), AnchorThatDrags.NONE);
            t.is(new AnchorThatDrags().count(5), AnchorThatDrags.BAD);
            t.is(new AnchorThatDrags().back(), AnchorThatDrags.STATE);
            t.refused(AnchorThatDrags.FULL, Scenes.FULL, x -> x.boat(0, 0, 0, 1));
            t.refused(AnchorThatDrags.FULL, Scenes.FULL, AnchorThatDrags::text);
            t.refused(AnchorThatDrags.FULL, Scenes.FULL, x -> x.feed(1, 0, 0, 0, 0, 0));
            t.refused(AnchorThatDrags.FULL, Scenes.FULL, x -> x.trial(4, 3, 0, 1));
        });
        e.terms("The host's: -11 nothing there, -12 a place outside, -13 of another sort or KIND, -14 a size below 0.", t -> {
            t.refused(-11, x -> x.cell(3, 0, 0));
            t.refused(-12, x -> x.cell(0, 3, 0));
            t.refused(-13, x -> x.copy(0, 0, 1, 0, 0));
            t.refused(-13, x -> x.taken(44, 6));
            t.refused(-14, x -> x.sheet(0, 0, -1));
        });
    }

    private static void changeNothing(Edges e) {
        e.terms("They change nothing, but where it is told.", t -> {
            // by every call that changes things
            t.refused(-7, x -> x.sound(44, 0, 31));
            t.refused(-7, x -> x.chart(44, 22, 1, 4));
            t.refused(-7, x -> x.blow(3, 2, 4));
            t.refused(-2, x -> x.feed(1, 97, 256, 0, 0, 0));
            t.refused(-4, Scenes.FULL, AnchorThatDrags::text);
            t.refused(-2, x -> x.force(2));
            t.refused(-2, x -> x.boat(0, 0, 0, 41));
            t.refused(-7, x -> x.let(0, 0, 100));
            t.refused(-2, x -> x.goOn(10));
            t.refused(-2, x -> x.trial(0, 0, 2, 1));
            t.refused(-7, x -> x.film(0, 0, 11));
            t.refused(-3, Scenes.NEW, AnchorThatDrags::back);
            t.refused(-14, x -> x.sheet(0, 1, -1));
            t.refused(-12, x -> x.cell(0, 3, 9));
            t.refused(-12, x -> x.copy(2, 0, 2, 1, 4));
            t.refused(-13, x -> x.boatsBy(2, 1, 0, 1));
            // told: by a fault the tape is empty, by a place outside what stood ahead came
            AnchorThatDrags x = new AnchorThatDrags();
            Scenes.BUSY.on(x);
            t.is(x.text(), -119);
            t.is(x.count(4), 0);
            Scenes.fill(x, 3, 2, 0, 0, 0, 1);
            t.is(x.boatsBy(3, 2, 0, 2), -12);
            t.is(x.count(1), 5);
        });
    }

    private static void asked(Edges e) {
        e.terms("What is asked changes nothing, but where it is told.", t -> {
            Edges.Call[] asked = {
                x -> x.told(44, 0), x -> x.count(4), x -> x.asks(0, 2003, 515, 4), x -> x.boatTold(0, 4),
                x -> x.hold(0, 5, 1), x -> x.night(10, 0, 0), x -> x.night(10, 1, 3), x -> x.fleet(10, 2), x -> x.hit(10, 0, 0),
                x -> x.wake(10), x -> x.veer(0, 10), x -> x.drop(0, 10, 1), x -> x.drop(Scenes.GONE, 10, 0), x -> x.rings(0, 1),
                x -> x.late(), x -> x.alarm(0, 10, 2), x -> x.size(0, 10, 1), x -> x.line(0, 1, 2), x -> x.marks(0, 10, 405, 1),
                x -> x.next(0, 4, 0), x -> x.two(0, 5, 1, 1), x -> x.angle(0, 10), x -> x.turns(0, 10), x -> x.rate(2, 1, 0),
                x -> x.form(1), x -> x.joined(), x -> x.judge(0, 0), x -> x.which(0), x -> x.laws(0, 0),
                x -> x.drawn(7, 10, 0, 1), x -> x.chance(0, 7, 2010, 0), x -> x.taken(44, 1)};
            for (Edges.Call call : asked) {
                t.unchanged(Scenes.BUSY, call);
                AnchorThatDrags x = new AnchorThatDrags();
                Scenes.BUSY.on(x);
                t.is(call.on(x), call.on(x));
            }
            for (int what = 0; what < 5; what++) {
                int as = what;
                t.unchanged(Scenes.FULL, x -> x.count(as));
                t.unchanged(Scenes.FULL, x -> x.fleet(1, Math.min(3, as)));
            }
            t.isNot(new AnchorThatDrags().turns(0, 0), 0);
            t.is(new AnchorThatDrags().turns(0, 0), NO);
        });
    }
}
