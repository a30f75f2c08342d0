import java.lang.management.ManagementFactory;

/** All calls of a run live in one room: what an object takes, and that calls make next to nothing. */
public final class RoomTest {
    private static final String SIX = "board 6;member 0 faces 1 weight 3;member 1 faces 4 weight 9;member 3 faces 1;"
        + "member 4 faces 2;member 5 faces 1 weight 6;drags:apart=1 and other>who or other=5;costs:weight*who+1;"
        + "goes:aim*aim+votes*3+who*weight+1;";
    private static final com.sun.management.ThreadMXBean MEMORY =
        (com.sun.management.ThreadMXBean) ManagementFactory.getThreadMXBean();
    private static int wrong = 0;

    private interface Work {
        void done();
    }

    public static void main(String[] args) {
        SwivelBoard x = Due.of(SIX);
        Due.row(x, 0, 1, 1, 2, 3, -1, 0, 5);
        Due.row(x, 1, 1, 1, 12, 105, 202, -1, 33);
        atMost("a new object", 32_000, () -> new SwivelBoard());
        atMost("every call that asks or changes", 4_000, () -> everyCall(x));
        // A law is kept in as many numbers as it has tokens.
        atMost("a board", 12_000, () -> Due.load(x, SIX));
        System.exit(wrong == 0 ? 0 : 1);
    }

    /** The first time loads classes; the second one is what a call takes. */
    private static void atMost(String what, long most, Work w) {
        w.done();
        long least = Long.MAX_VALUE;
        for (int i = 0; i < 5; i++) {
            long before = MEMORY.getThreadAllocatedBytes(Thread.currentThread().getId());
            w.done();
            least = Math.min(least, MEMORY.getThreadAllocatedBytes(Thread.currentThread().getId()) - before);
        }
        System.out.println(what + ": " + least + " bytes");
        if (least > most) {
            wrong++;
            System.out.println("more than " + most);
        }
    }

    private static void everyCall(SwivelBoard x) {
        x.turn(0, 2);
        x.weigh(1, 4);
        x.stick(2);
        x.minutes(7);
        x.undo(2);
        x.perform(1);
        x.session(7, 30);
        x.image(1);
        x.restore(1);
        for (int m = 0; m < 6; m++) {
            x.throne(m, 0);
            x.power(m);
            x.motion(m);
            x.helps(m, 1);
            x.vetoes(m);
            x.reign(m, 9999);
            x.first(m);
            x.chance(m, 6, 1);
            x.drags(m);
            x.goes(m);
            x.aimIn(m, 99999);
        }
        for (int what = 0; what < 4; what++) {
            x.judge(1, what);
        }
        x.cheapest(0, 0);
        x.ways(0);
        x.looks();
        x.idle();
        x.strongest();
        x.knees(0);
        x.settles(1);
        x.chairIn(99999);
        x.seen(0);
        x.seenAt(0, 0);
        x.ask(0);
        x.likeliest(6);
        x.copy(0, 0);
        x.tray(2, 3, 30);
        x.write(2, 29, 1);
        Due.row(x, 0, 1, 1, 2, 3, -1, 0, 5);
    }
}
