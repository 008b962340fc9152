/** Promises 19, 21, 29 to 32, 34 and 36: the queue, the lanes and the order of leaving. */
public final class LoadingTest {
    private LoadingTest() {
    }

    private static FerryTimetable x;

    public static void main(String[] args) {
        oneRamp();
        twoRamps();
        leastLeft();
        shiftOrder();
        shiftTarget();
        laneErrors();
        leaves();
        load();
        bestBerth();
        presentData();
        Check.finish();
    }

    /** Crossing, lane, place and shifts of a vehicle. */
    private static void stands(int vehicle, int crossing, int lane, int place, int shifts) {
        int[] due = {crossing, lane, place, shifts};
        for (int i = 0; i < 4; i++) {
            Check.due("vehicle(" + vehicle + ", " + (3 + i) + ")", due[i], x.vehicle(vehicle, 3 + i));
        }
        if (crossing != Check.NONE) {
            Check.due("laneVehicle of vehicle " + vehicle, vehicle, x.laneVehicle(crossing, lane, place));
        }
    }

    private static void leftBehind(int vehicle, int shifts) {
        stands(vehicle, Check.NONE, Check.NONE, Check.NONE, shifts);
    }

    private static void oneRamp() {
        Check.part("Promise 21, one ramp");
        x = new FerryTimetable();
        x.addShip(100, 1, 100, 50);
        x.addBerth(300, 1);
        x.addCrossing(0, 0, 0, 60);
        x.addVehicle(0, 10, 3);
        x.addVehicle(0, 10, 4);
        x.addVehicle(0, 10, 3);
        x.addVehicle(0, 10, 1);
        x.addVehicle(0, 10, 2);
        x.addVehicle(0, 10, 0);
        stands(0, 0, 0, 0, 0);
        leftBehind(1, 0);
        stands(2, 0, 0, 1, 0);
        stands(3, 0, 0, 2, 0);
        leftBehind(4, 0);
        stands(5, 0, 0, 3, 0);
        Check.due("laneLeft(0, 0)", 60, x.laneLeft(0, 0));
        Check.due("crossing(0, 8)", 4, x.crossing(0, 8));
        Check.due("crossing(0, 9)", 6, x.crossing(0, 9));
    }

    private static void twoRamps() {
        Check.part("Promise 21, two ramps");
        x = new FerryTimetable();
        x.addShip(100, 1, 100, 50);
        x.addBerth(300, 2);
        x.addCrossing(0, 0, 0, 60);
        x.addVehicle(0, 10, 2);
        x.addVehicle(0, 10, 1);
        x.addVehicle(0, 10, 2);
        x.addVehicle(0, 10, 4);
        x.addVehicle(0, 10, 3);
        x.addVehicle(0, 10, 5);
        stands(0, 0, 0, 0, 0);
        leftBehind(1, 0);
        stands(2, 0, 0, 1, 0);
        stands(3, 0, 0, 2, 0);
        leftBehind(4, 0);
        stands(5, 0, 0, 3, 0);
        Check.due("isOrderly()", 1, x.isOrderly());
    }

    private static void leastLeft() {
        Check.part("Promises 21 and 29, the least length left");
        x = new FerryTimetable();
        x.addShip(100, 3, 30, 50);
        x.addBerth(300, 1);
        x.addCrossing(0, 0, 0, 60);
        x.addVehicle(0, 20, 3);
        x.addVehicle(0, 12, 3);
        x.addVehicle(0, 25, 3);
        x.addVehicle(0, 5, 3);
        x.addVehicle(0, 6, 4);
        x.addVehicle(0, 10, 3);
        x.addVehicle(0, 8, 2);
        x.addVehicle(0, 3, 2);
        stands(0, 0, 0, 0, 0);
        stands(1, 0, 1, 0, 0);
        stands(2, 0, 2, 0, 0);
        // lane 2 has just 5 meters left
        stands(3, 0, 2, 1, 0);
        leftBehind(4, 0);
        // lane 0 has just 10 left, lane 1 has 18
        stands(5, 0, 0, 1, 0);
        stands(6, 0, 1, 1, 0);
        stands(7, 0, 1, 2, 0);
        Check.due("laneLeft(0, 0)", 0, x.laneLeft(0, 0));
        Check.due("laneLeft(0, 1)", 7, x.laneLeft(0, 1));
        Check.due("laneLeft(0, 2)", 0, x.laneLeft(0, 2));
        Check.due("laneVehicle(0, 1, 3)", Check.NONE, x.laneVehicle(0, 1, 3));
        x.addCrossing(0, 0, 100, 160);
        x.addVehicle(1, 10, 5);
        x.addVehicle(1, 10, 1);
        x.addVehicle(1, 10, 2);
        // vehicle 4 is shifted and comes last; a lane with less left that may not take it is passed over
        stands(8, 1, 0, 0, 0);
        stands(9, 1, 0, 1, 0);
        stands(10, 1, 1, 0, 0);
        stands(4, 1, 2, 0, 1);
        x.addVehicle(1, 30, 0);
        stands(11, 1, 2, 0, 0);
        leftBehind(4, 1);
    }

    private static void shiftOrder() {
        Check.part("Promise 19 and 21, the order of the queue");
        x = new FerryTimetable();
        x.addShip(100, 1, 10, 50);
        x.addShip(100, 1, 100, 50);
        x.addBerth(300, 1);
        x.addCrossing(1, 0, 300, 360);
        x.addCrossing(0, 0, 100, 160);
        x.addCrossing(0, 0, 200, 260);
        x.addVehicle(2, 11, 0);
        x.addVehicle(1, 12, 0);
        x.addVehicle(0, 13, 0);
        x.addVehicle(1, 14, 0);
        x.addVehicle(2, 15, 0);
        x.addVehicle(0, 16, 0);
        x.addVehicle(1, 5, 0);
        // at 2 wait 0, 4, then 1, 3 from crossing 1; at 0 wait 2, 5, then 0, 4, 1, 3
        int[] due = {2, 5, 0, 4, 1, 3};
        int[] shifts = {0, 0, 1, 1, 2, 2};
        for (int i = 0; i < 6; i++) {
            stands(due[i], 0, 0, i, shifts[i]);
        }
        stands(6, 1, 0, 0, 0);
        Check.due("crossing(1, 9)", 3, x.crossing(1, 9));
        Check.due("crossing(2, 9)", 4, x.crossing(2, 9));
        Check.due("crossing(0, 9)", 6, x.crossing(0, 9));
        Check.due("crossing(1, 8)", 1, x.crossing(1, 8));
        Check.due("crossing(2, 8)", 0, x.crossing(2, 8));
        Check.due("crossing(0, 8)", 6, x.crossing(0, 8));
        Check.due("account(9)", 6, x.account(9));
        Check.due("account(5)", 0, x.account(5));
        x.setWind(5, 51);
        Check.due("account(4), no one leaves in the hour 5", 7, x.account(4));
        x.setWind(6, 51);
        // crossing 0 departs at 360 and is cancelled: all are left behind
        leftBehind(2, 0);
        leftBehind(1, 1);
        Check.due("crossing(0, 9)", 2, x.crossing(0, 9));
        Check.due("crossing(2, 9)", 4, x.crossing(2, 9));
        Check.due("account(5)", 6, x.account(5));
    }

    private static void shiftTarget() {
        Check.part("Promise 21, to where they are shifted");
        x = new FerryTimetable();
        x.addShip(100, 1, 10, 50);
        x.addShip(100, 1, 10, 50);
        x.addShip(100, 1, 10, 50);
        x.addBerth(300, 1);
        x.addBerth(300, 1);
        x.addBerth(300, 1);
        x.addCrossing(0, 0, 100, 160);
        x.addCrossing(1, 1, 100, 160);
        x.addCrossing(2, 2, 100, 161);
        x.addVehicle(0, 10, 0);
        x.addVehicle(0, 10, 0);
        // crossing 1 leaves at the same time and is passed over
        stands(1, 2, 0, 0, 1);
        Check.due("crossing(1, 9)", 0, x.crossing(1, 9));
        x.addVehicle(2, 10, 0);
        // it wants crossing 2 and stands before the one that was shifted to it
        stands(2, 2, 0, 0, 0);
        leftBehind(1, 1);
        // a cancelled crossing is passed over, and passing over is no shift
        x.addCrossing(2, 1, 160, 200);
        x.addCrossing(2, 1, 300, 360);
        Check.due("crossing(3, 5)", 4, x.crossing(3, 5));
        stands(1, 4, 0, 0, 2);
        // those who want a cancelled crossing are shifted from it
        x.addVehicle(3, 10, 0);
        x.addVehicle(3, 9, 0);
        stands(1, 4, 0, 0, 2);
        leftBehind(3, 1);
        leftBehind(4, 1);
        Check.due("crossing(3, 9)", 2, x.crossing(3, 9));
        Check.due("crossing(3, 8)", 0, x.crossing(3, 8));
        Check.due("crossing(4, 9)", 3, x.crossing(4, 9));
        // a delay does not matter: crossing 0 would end after 161 and its vehicles still go to crossing 2
        x.addConnection(0, 170, 60, 1);
        Check.due("crossing(0, 4)", 20, x.crossing(0, 4));
        stands(1, 4, 0, 0, 2);
    }

    private static void laneErrors() {
        Check.part("Promises 29 and 30");
        x = Check.easyPort();
        Check.due("laneLeft(0, 0) of none", Check.NO_SUCH, x.laneLeft(0, 0));
        Check.due("laneVehicle(0, 0, 0) of none", Check.NO_SUCH, x.laneVehicle(0, 0, 0));
        x.addCrossing(0, 0, 0, 60);
        x.addVehicle(0, 5, 0);
        Check.due("laneLeft(-1, 0)", Check.NO_SUCH, x.laneLeft(-1, 0));
        Check.due("laneLeft(1, 0)", Check.NO_SUCH, x.laneLeft(1, 0));
        Check.due("laneLeft(0, -1)", Check.NO_SUCH, x.laneLeft(0, -1));
        Check.due("laneLeft(0, 2)", Check.NO_SUCH, x.laneLeft(0, 2));
        Check.due("laneLeft(0, 0)", 15, x.laneLeft(0, 0));
        Check.due("laneLeft(0, 1)", 20, x.laneLeft(0, 1));
        Check.due("laneVehicle(-1, 0, 0)", Check.NO_SUCH, x.laneVehicle(-1, 0, 0));
        Check.due("laneVehicle(1, 0, 0)", Check.NO_SUCH, x.laneVehicle(1, 0, 0));
        Check.due("laneVehicle(0, -1, 0)", Check.NO_SUCH, x.laneVehicle(0, -1, 0));
        Check.due("laneVehicle(0, 2, 0)", Check.NO_SUCH, x.laneVehicle(0, 2, 0));
        Check.due("laneVehicle(0, 0, 0)", 0, x.laneVehicle(0, 0, 0));
        Check.due("laneVehicle(0, 0, 1)", Check.NONE, x.laneVehicle(0, 0, 1));
        Check.due("laneVehicle(0, 0, -1)", Check.NONE, x.laneVehicle(0, 0, -1));
        Check.due("laneVehicle(0, 1, 0)", Check.NONE, x.laneVehicle(0, 1, 0));
        Check.due("laneVehicle(0, 0, NONE)", Check.NONE, x.laneVehicle(0, 0, Check.NONE));
        Check.due("laneVehicle(0, 0, MAX)", Check.NONE, x.laneVehicle(0, 0, Integer.MAX_VALUE));
        x.addVehicle(0, 30, 0);
        leftBehind(1, 0);
        Check.due("laneVehicle(0, 0, NONE)", Check.NONE, x.laneVehicle(0, 0, Check.NONE));
        x.setWind(1, 51);
        Check.due("laneLeft(0, 0) of a cancelled one", Check.STATE, x.laneLeft(0, 0));
        Check.due("laneLeft(0, 2) of a cancelled one", Check.NO_SUCH, x.laneLeft(0, 2));
        Check.due("laneVehicle(0, 0, 0) of a cancelled one", Check.NONE, x.laneVehicle(0, 0, 0));
        Check.due("laneVehicle(0, 2, 0) of a cancelled one", Check.NO_SUCH, x.laneVehicle(0, 2, 0));
        Check.due("leaves(0, 0) of a cancelled one", Check.NONE, x.leaves(0, 0));
    }

    private static void leaves(int crossing, int... due) {
        for (int i = 0; i < due.length; i++) {
            Check.due("leaves(" + crossing + ", " + i + ")", due[i], x.leaves(crossing, i));
        }
        Check.due("leaves after the last", Check.NONE, x.leaves(crossing, due.length));
    }

    private static void leaves() {
        Check.part("Promises 31 and 32");
        x = new FerryTimetable();
        x.addShip(100, 2, 20, 50);
        x.addBerth(300, 1);
        Check.due("leaves(0, 0) of none", Check.NO_SUCH, x.leaves(0, 0));
        x.addCrossing(0, 0, 0, 60);
        leaves(0);
        x.addVehicle(0, 8, 3);
        x.addVehicle(0, 13, 5);
        x.addVehicle(0, 5, 3);
        x.addVehicle(0, 5, 3);
        x.addVehicle(0, 7, 0);
        // lane 0: 0 (3), 2 (3), 4 (0); lane 1: 1 (5), 3 (3)
        stands(2, 0, 1, 1, 0);
        stands(3, 0, 0, 1, 0);
        stands(4, 0, 0, 2, 0);
        leaves(0, 4, 3, 0, 2, 1);
        Check.due("leaves(0, -1)", Check.NONE, x.leaves(0, -1));
        Check.due("leaves(0, MAX)", Check.NONE, x.leaves(0, Integer.MAX_VALUE));
        Check.due("leaves(0, MIN)", Check.NONE, x.leaves(0, Integer.MIN_VALUE));
        Check.due("leaves(-1, 0)", Check.NO_SUCH, x.leaves(-1, 0));
        Check.due("leaves(1, -1)", Check.NO_SUCH, x.leaves(1, -1));
        Check.due("isOrderly()", 1, x.isOrderly());
        x.setBerth(0, 300, 2);
        // lane 0: 0 (3), 1 does not fit; lane 1: 1 (5); 2 and 3 to lane 0; 4 has no place
        leaves(0, 0, 2, 3, 1);
        leftBehind(4, 0);
        Check.due("isOrderly()", 1, x.isOrderly());
    }

    private static void load() {
        Check.part("Promise 34");
        x = new FerryTimetable();
        x.addShip(100, 3, 70, 50);
        x.addShip(100, 1, 11, 50);
        x.addBerth(300, 1);
        Check.due("loadBits()", Check.NONE, x.loadBits());
        x.addCrossing(0, 0, 0, 60);
        Check.due("loadBits() with no vehicle", 0, x.loadBits());
        x.addVehicle(0, 30, 0);
        Check.due("loadBits()", Float.floatToIntBits(30.0f / 210.0f), x.loadBits());
        x.addVehicle(0, 17, 0);
        Check.due("loadBits()", Float.floatToIntBits(47.0f / 210.0f), x.loadBits());
        x.setWind(1, 51);
        Check.due("loadBits() when none sails", Check.NONE, x.loadBits());
        x.addCrossing(1, 0, 100, 130);
        Check.due("loadBits()", 0, x.loadBits());
        x.addVehicle(0, 11, 0);
        Check.due("loadBits() of a full ship", Float.floatToIntBits(1.0f), x.loadBits());
    }

    /** Each call is made just after a change, while what was found before it is still there. */
    private static void presentData() {
        Check.sentence("Time", "All results follow the present data: nothing is decided before it is asked for.");
        x = new FerryTimetable();
        x.addShip(100, 1, 20, 50);
        x.addBerth(300, 1);
        x.addCrossing(0, 0, 0, 60);
        x.addVehicle(0, 8, 2);
        Check.due("crossing(0, 9)", 1, x.crossing(0, 9));
        x.addVehicle(0, 8, 1);
        Check.due("crossing(0, 9)", 2, x.crossing(0, 9));
        Check.due("isOrderly()", 1, x.isOrderly());
        x.setBerth(0, 300, 2);
        Check.due("isOrderly()", 1, x.isOrderly());
        x.setWind(1, 51);
        Check.due("crossing(0, 8)", 0, x.crossing(0, 8));
        x.setWind(1, 50);
        Check.due("laneVehicle(0, 0, 0)", 0, x.laneVehicle(0, 0, 0));
        x.setWind(1, 51);
        Check.due("leaves(0, 0)", Check.NONE, x.leaves(0, 0));
        x.setWind(1, 50);
        Check.due("leaves(0, 0)", 0, x.leaves(0, 0));
        x.setWind(1, 51);
        Check.due("laneVehicle(0, 0, 0)", Check.NONE, x.laneVehicle(0, 0, 0));
        Check.due("laneLeft(0, 0)", Check.STATE, x.laneLeft(0, 0));
        x.setWind(1, 50);
        Check.due("laneLeft(0, 0)", 12, x.laneLeft(0, 0));
        x.setBerth(0, 300, 1);
        Check.due("laneLeft(0, 0)", 4, x.laneLeft(0, 0));
        Check.due("sailingIf(200)", 1, x.sailingIf(200));
        x.setBerth(0, 200, 1);
        Check.due("sailingIf(200), which leaves nothing behind", 0, x.sailingIf(200));
        Check.due("crossing(0, 5)", 0, x.crossing(0, 5));
        Check.due("vehicle(1, 5)", 1, x.vehicle(1, 5));
    }

    private static void bestBerth() {
        Check.part("Promise 36");
        x = new FerryTimetable();
        x.addShip(100, 1, 20, 50);
        x.addBerth(100, 1);
        Check.due("bestBerth(0) of none", Check.NO_SUCH, x.bestBerth(0));
        x.addBerth(300, 1);
        x.addBerth(300, 2);
        x.addCrossing(0, 0, 0, 60);
        Check.due("bestBerth(-1)", Check.NO_SUCH, x.bestBerth(-1));
        Check.due("bestBerth(1)", Check.NO_SUCH, x.bestBerth(1));
        Check.due("bestBerth(0), all alike", 0, x.bestBerth(0));
        x.addVehicle(0, 8, 1);
        Check.due("bestBerth(0), the lowest with water", 1, x.bestBerth(0));
        x.addVehicle(0, 8, 2);
        Check.due("bestBerth(0), two ramps take both", 2, x.bestBerth(0));
        Check.due("the berth stays", 0, x.crossing(0, 1));
        Check.due("crossing(0, 5)", 2, x.crossing(0, 5));
        x.addCrossing(0, 2, 30, 90);
        x.addVehicle(1, 9, 0);
        x.addVehicle(1, 9, 0);
        Check.due("account(4), crossing 1 sails with its own and one not at all", 2, x.account(4));
        // crossing 0 would keep crossing 1 out, by its ship
        Check.due("bestBerth(0), of all crossings together", 0, x.bestBerth(0));
        Check.due("bestBerth(1)", 1, x.bestBerth(1));
        x.addVehicle(0, 4, 3);
        // with berth 2 crossing 0 takes three
        Check.due("bestBerth(0)", 2, x.bestBerth(0));
    }
}
