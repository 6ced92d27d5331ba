import java.lang.management.ManagementFactory;

/** Calls make nothing: all runs live in one room. The dearest calls end soon. */
public final class RoomTest {
    private static final Checks CHECKS = new Checks();
    private static final String FULL = "ship bays 6 rows 4 hold 3 deck 3;wall 0 door;wall 1 door;wall 2 door;wall 3 door;wall 4 door;bears 50 50;"
        + "level 1 across 2 along 2 walls 1;kind;kind;apart 0 1 1;box 1 weight 1;box 1 weight 1;box 0 weight 1;" + "box 0 weight 99;".repeat(21);

    private RoomTest() {
    }

    public static void main(String[] args) {
        KeptApart x = new KeptApart();
        int[][] rows = Texts.rows(FULL);
        everyCall(x, rows);
        com.sun.management.ThreadMXBean threads = (com.sun.management.ThreadMXBean) ManagementFactory.getThreadMXBean();
        long id = Thread.currentThread().getId();
        long before = threads.getThreadAllocatedBytes(id);
        for (int i = 0; i < 50; i++) {
            everyCall(x, rows);
        }
        long made = threads.getThreadAllocatedBytes(id) - before;
        CHECKS.due("calls make nothing (" + made + " bytes)", made < 50000 ? 0 : made, 0);
        before = threads.getThreadAllocatedBytes(id);
        new KeptApart();
        made = threads.getThreadAllocatedBytes(id) - before;
        CHECKS.due("an object is small (" + made + " bytes)", made < 20000 ? 0 : made, 0);
        dearest();
        CHECKS.close("RoomTest");
    }

    private static void everyCall(KeptApart x, int[][] rows) {
        x.end(0);
        for (int[] r : rows) {
            x.feed(r[0], r[1], r[2], r[3], r[4]);
        }
        x.ship();
        x.opens(0, 0);
        x.greedy();
        x.takes();
        x.loads();
        x.load(100);
        x.effort(100);
        x.shifts(0, 99, 100);
        x.books(0, 1, 1);
        x.swaps(0, 1);
        x.clears();
        x.undo();
        for (int i = -1; i < 13; i++) {
            x.fault(i);
            x.count(i);
            x.wall(i);
            x.level(i, 1);
            x.kind(i);
            x.apart(i, 0);
            x.box(i, 3);
            x.at(i);
            x.between(i, 5, 2);
            x.far(i, 5, 1);
            x.why(1, i);
            x.nearIn(1, i);
            x.may(1, i);
            x.near(i);
            x.nearTo(i);
            x.doors(i);
            x.weighs(i, 1, 1);
            x.lean(i);
            x.restows(i);
            x.told(i);
            x.shift(i, 1);
            x.ways(i);
            x.bayOf(i, 1);
            x.hang(i);
            x.tell(i);
            x.octet(i);
            x.stack(i, 0, 0, 0);
            x.kindsIn(i);
            x.free(i);
            x.loosest(i);
            x.voyage(i);
            x.clear(1, i);
            x.label(i);
        }
        x.over();
        x.span();
        x.steady();
        x.puts(0, 141);
        x.lifts(0);
    }

    private static void dearest() {
        KeptApart x = new KeptApart();
        Texts.ship(x, FULL);
        long begin = System.nanoTime();
        CHECKS.due("load(50000)", x.load(50000), -3);
        CHECKS.due("effort(50000)", x.effort(50000), -3);
        Texts.ship(x, "ship bays 6 rows 4 hold 3 deck 3;level 1 across 9 along 9;kind;kind;apart 0 1 1;apart 1 1 1;" + "box 0 weight 9;".repeat(24));
        x.loads();
        CHECKS.due("shifts(1, 1, 50000)", x.shifts(1, 1, 50000), -3);
        Texts.ship(x, "ship bays 1 rows 1 hold 1 deck 0;level 1 across 1 along 1;" + "kind;".repeat(7)
            + "apart 0 1 1;apart 1 2 1;apart 2 3 1;apart 3 4 1;apart 4 5 1;apart 5 6 1;");
        CHECKS.due("ways(8)", x.ways(8), 8L * 7 * 7 * 7 * 7 * 7 * 7);
        long seconds = (System.nanoTime() - begin) / 1_000_000_000;
        CHECKS.due("seconds for the dearest calls are few (" + seconds + ")", seconds < 60 ? 0 : seconds, 0);
    }
}
