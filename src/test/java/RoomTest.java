import java.lang.management.ManagementFactory;
import java.util.Random;

/** All calls of one run live in one room: what an object needs is made with it, and calls make nothing. */
public final class RoomTest {
    private static long allocated() {
        com.sun.management.ThreadMXBean bean = (com.sun.management.ThreadMXBean) ManagementFactory.getThreadMXBean();
        return bean.getCurrentThreadAllocatedBytes();
    }

    private static int callAll(SandHold x, Random dice) {
        int n = dice.nextInt(4);
        return x.level(n) + x.wet(n) + x.minutes(1) + x.raise(n) + x.dig(n) + x.build(n, n) + x.moon(n) + x.undo(1) + x.judge(0, n) + x.perform(0)
            + x.day(n, 5) + x.falls(0) + x.stands(9) + x.when(n) + x.worn(n, n) + x.last() + x.owner(n) + x.least(n, 9) + x.safe(n) + x.worst()
            + x.plan(0) + x.order(0) + x.colours(0) + x.clique(0) + x.papers(n) + x.balance(n) + x.payments() + x.moons(1) + x.look(1) + x.puts(0)
            + x.wins() + x.chance(0, 8, 0) + x.mean(8, 0) + x.numbers(0, n, n) + (int) x.write(0, 0, 0) + x.lists(0) + x.image(0) + x.restore(0)
            + x.count(n) + x.fault(0) + x.sand(n) + x.house(0, 0) + x.plot(0, 0);
    }

    private static int readAgain(SandHold x) {
        x.feed(0x73686f72, 0x6520726f, 0x77732034, 0x20636f6c, 0x756d6e73);
        x.feed(0x20353b68, 0x6f757365, 0x20302020, 0x6f776e65, 0x7220303b);
        return x.shore(40);
    }

    public static void main(String[] args) {
        // the first one loads classes too
        new SandHold();
        allocated();
        long before = allocated();
        new SandHold();
        long made = allocated() - before;
        Check.dueTrue("a new object takes less than 60,000 bytes, not " + made, made < 60000);
        SandHold x = Check.with("shore rows 4 columns 5;house 19 owner 0;plot 19 minutes 3 worth 3;paper 0 3;owes 0 1 5;gale 5;"
            + "washes:if height>0 then height-1 else 0 end;tide:(minute+moon)*2-9;");
        Check.tray(x, 1, 100, 205);
        Check.tray(x, 0, 0, 100, 1000);
        Random dice = new Random(1);
        int sum = 0;
        for (int i = 0; i < 20; i++) {
            sum += callAll(x, dice) + readAgain(x);
        }
        before = allocated();
        for (int i = 0; i < 200; i++) {
            sum += callAll(x, dice) + readAgain(x);
        }
        long more = allocated() - before;
        // the machine's own few bytes may be among them; one object of 16 bytes each tenth call would be more
        Check.dueTrue("8,000 calls make nothing, not " + more + " bytes (their sum is " + sum + ")", more < 8000);
        Check.end("RoomTest");
    }
}
