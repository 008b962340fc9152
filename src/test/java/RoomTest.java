import com.sun.management.ThreadMXBean;
import java.lang.management.ManagementFactory;

/** All calls of a run live in one room: only the constructor makes objects, and few. */
public final class RoomTest {
    private static final int OBJECTS = 500;
    // each of them is called at most 512 times in all
    private static final int ROUNDS = 3;
    private static final long MOST_BYTES_OF_AN_OBJECT = 40_000;
    private static final long MOST_BYTES_OF_ALL_CALLS = 100_000;

    private RoomTest() {
    }

    public static void main(String[] args) {
        if (!(ManagementFactory.getThreadMXBean() instanceof ThreadMXBean bean)
                || !bean.isThreadAllocatedMemorySupported()) {
            System.out.println("the bytes cannot be counted here");
            return;
        }
        callAll(fullPort());
        FerryTimetable[] called = new FerryTimetable[OBJECTS];
        for (int i = 0; i < called.length; i++) {
            called[i] = fullPort();
        }
        long id = Thread.currentThread().getId();
        long before = bean.getThreadAllocatedBytes(id);
        for (FerryTimetable x : called) {
            for (int i = 0; i < ROUNDS; i++) {
                callAll(x);
            }
        }
        long calls = bean.getThreadAllocatedBytes(id) - before;
        FerryTimetable[] made = new FerryTimetable[100];
        before = bean.getThreadAllocatedBytes(id);
        for (int i = 0; i < made.length; i++) {
            made[i] = new FerryTimetable();
        }
        long each = (bean.getThreadAllocatedBytes(id) - before) / made.length;
        System.out.println(calls + " bytes in " + OBJECTS * ROUNDS + " rounds of all calls, " + each + " bytes an object");
        Check.holds("the calls make no objects", calls < MOST_BYTES_OF_ALL_CALLS);
        Check.holds("an object is small", each < MOST_BYTES_OF_AN_OBJECT);
        Check.finish();
    }

    private static FerryTimetable fullPort() {
        FerryTimetable x = new FerryTimetable();
        for (int i = 0; i < 3; i++) {
            x.addShip(100, 4, 20, 50);
            x.addBerth(300, 1 + i % 2);
        }
        x.addShip(100, 4, 20, 50);
        for (int i = 0; i < 11; i++) {
            x.addCrossing(i % 4, i % 3, 100 * i, 100 * i + 90);
        }
        for (int i = 0; i < 23; i++) {
            x.addVehicle(i % 11, 3 + i, i % 6);
        }
        for (int i = 0; i < 7; i++) {
            x.addConnection(i, 100 * i + 85, 60, 5);
        }
        return x;
    }

    private static void callAll(FerryTimetable x) {
        x.save();
        x.addCrossing(0, 0, 5, 10);
        x.addVehicle(1, 3, 0);
        x.addConnection(1, 3, 0, 1);
        x.setBerth(0, 300, 2);
        x.setTide(1, 3);
        x.setWind(1, 3);
        x.setMargin(40);
        x.append('t' << 24 | '3' << 16 | '=' << 8 | '9');
        x.read();
        x.faultPosition();
        x.undo();
        for (int what = 0; what < 10; what++) {
            x.count(what);
            x.ship(1, what);
            x.berth(1, what);
            x.crossing(1, what);
            x.vehicle(1, what);
            x.connection(1, what);
            x.account(what);
        }
        x.decided(1);
        x.firstTime(0, 0, 0);
        x.heightBits(77);
        x.water(1, 77);
        x.laneLeft(1, 1);
        x.laneVehicle(1, 1, 1);
        x.leaves(1, 1);
        x.isOrderly();
        x.loadBits();
        x.sailingIf(70);
        x.bestBerth(1);
        x.layDown(0, 0, 0, 0);
        x.lying(0, 0);
        x.removeCrossing(11);
        x.takeOut(0, 0);
        x.restore();
    }
}
