import java.lang.management.ManagementFactory;

/** What a run of 512 calls makes stays far below the room that all calls of a run share. */
public final class RoomTest {
    private static final Check CHECK = new Check("RoomTest");
    // 7.3 million fields and elements; counted as if each were a single byte.
    private static final long ROOM = 7_300_000L;

    public static void main(String[] args) {
        dearestTexts();
        dearestWays();
        CHECK.end();
    }

    private static long bytesMade() {
        com.sun.management.ThreadMXBean threads =
            (com.sun.management.ThreadMXBean) ManagementFactory.getThreadMXBean();
        return threads.getCurrentThreadAllocatedBytes();
    }

    private static void dearestTexts() {
        int[] five = Hand.numbers("solved1or solved1or ", 0);
        long before = bytesMade();
        HuntHouse house = new HuntHouse();
        house.feed(0x61616161, 0, 0, 0, 0);
        house.riddle(1, 0, 4);
        for (int call = 3; call < 512; call += 2) {
            house.feed(five[0], five[1], five[2], five[3], five[4]);
            house.rule(0, 17);
        }
        long made = bytesMade() - before;
        CHECK.due("texts: " + made + " bytes made", made < ROOM / 8, true);
        CHECK.due("the texts were read", house.count(4), 100);
    }

    private static void dearestWays() {
        HuntHouse house = new HuntHouse();
        long before = bytesMade();
        for (int r = 0; r < 9; r++) {
            house.feed(0x61616161, 0, 0, 0, 0);
            house.riddle(r == 8 ? 2 : 0, 0, 4);
        }
        house.feed(0x61616161, 0x3f202020, 0, 0, 0);
        house.form(0, 5);
        for (int call = 20; call + 6 <= 512; call += 6) {
            house.states(0);
            house.shut(0);
            house.shortest(0);
            house.dead(0);
            house.feed(0x61616161, 0x61616161, 0, 0, 0);
            house.takes(0, 8);
        }
        long made = bytesMade() - before;
        CHECK.due("ways: " + made + " bytes made", made < ROOM / 100, true);
    }
}
