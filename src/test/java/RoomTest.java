import java.lang.management.ManagementFactory;

/** Rule 12: all calls of a run live in one room, so calls make no objects but the boats that come. */
public final class RoomTest {
    private static final com.sun.management.ThreadMXBean MEMORY =
        (com.sun.management.ThreadMXBean) ManagementFactory.getThreadMXBean();
    private static final Due due = new Due();

    private static long sum = 0;

    private static long made() {
        return MEMORY.getThreadAllocatedBytes(Thread.currentThread().getId());
    }

    public static void main(String[] args) {
        // the machine's own objects, made when a class is first used, don't count
        everyCall(withBoats());
        long before = made();
        AnchorThatDrags x = new AnchorThatDrags();
        long fresh = made() - before;
        due.is("a new object is small (" + fresh + " bytes)", fresh < 20000 ? 1 : 0, 1);
        x = withBoats();
        before = made();
        for (int k = 0; k < 5; k++) {
            everyCall(x);
        }
        long calls = made() - before;
        due.is("all calls, five times, make few objects (" + calls + " bytes)", calls < 1000 ? 1 : 0, 1);
        due.end();
        System.out.println("the answers' sum is " + sum);
    }

    private static AnchorThatDrags withBoats() {
        AnchorThatDrags x = new AnchorThatDrags();
        for (int i = 0; i < 6; i++) {
            x.boat(i, 111 * i, 11 * i, 10 + i);
        }
        x.sheet(0, 2, 12);
        return x;
    }

    private static void everyCall(AnchorThatDrags x) {
        int n = 12 - x.count(0);
        Due.feed(x, "pull 1+;");
        sum += x.text() + x.force(0) + x.asks(0, 1, 1, 1) + x.sound(1, 0, 5) + x.chart(1, 11, 0, 5) + x.blow(1, 0, 1);
        sum += x.told(1, 1) + x.let(0, 1, 10) + x.boatTold(0, 1) + x.hold(0, 0, 1);
        sum += x.night(n, 0, 3) + x.fleet(n, 2) + x.hit(n, 0, 0) + x.wake(n) + x.image() + x.goOn(2) + x.back();
        sum += x.veer(0, n) + x.drop(0, n, 1) + x.rings(0, 1) + x.late();
        sum += x.alarm(0, n, 3) + x.size(0, n, 1) + x.line(1, 2, 3) + x.marks(0, n, 99, 1);
        sum += x.next(0, 4, 1) + x.two(0, 1, 2, 1) + x.angle(0, n) + x.turns(0, n);
        sum += x.trial(0, 0, 1, 1) + x.rate(0, 0, 0) + x.form(0) + x.joined();
        sum += x.film(0, 0, n) + x.judge(0, 0) + x.which(0) + x.laws(0, 0);
        sum += x.drawn(1, n, 0, 1) + x.chance(0, 1, 2000 + n, 0);
        sum += x.sheet(1, 1, 12) + x.cell(1, 1, 1) + x.copy(1, 0, 1, 1, 3) + x.boatsBy(1, 1, 0, 2) + x.taken(1, 6);
    }
}
