/** The boundary cases of the queue, the lanes and the order of leaving: promises 21, 29 to 32, 34 and 36. */
public final class EdgesOfLoadingTest {
    private static final int MIN = Integer.MIN_VALUE;
    private static final int MAX = Integer.MAX_VALUE;

    private EdgesOfLoadingTest() {
    }

    public static void main(String[] args) {
        waitingOrder();
        shiftedOrder();
        fullQueue();
        departsLater();
        withoutRegardToDelays();
        oneShift();
        leftBehind();
        lanesOfAShip();
        oneRamp();
        twoRamps();
        emptyLane();
        lengthLeft();
        leastLeft();
        noLane();
        laneLeft();
        laneVehicle();
        leaves();
        leavingOrder();
        isOrderly();
        loadBits();
        bestBerth();
        bestOfSeveral();
        Check.finish();
    }

    /** A port with one ship and one berth and a crossing from 0 to 60. */
    private static Run ship(int lanes, int length, int ramps) {
        return new Run().call("addShip", 100, lanes, length, 50).call("addBerth", 300, ramps).call("addCrossing", 0, 0, 0, 60);
    }

    private static Run aboard(Run run, int vehicle, int crossing, int lane, int position, int shifts) {
        return run.due(crossing, "vehicle", vehicle, 3).due(lane, "vehicle", vehicle, 4).due(position, "vehicle", vehicle, 5)
                .due(shifts, "vehicle", vehicle, 6).due(vehicle, "laneVehicle", crossing, lane, position);
    }

    private static Run behind(Run run, int vehicle, int shifts) {
        return run.due(Check.NONE, "vehicle", vehicle, 3).due(Check.NONE, "vehicle", vehicle, 4).due(Check.NONE, "vehicle", vehicle, 5)
                .due(shifts, "vehicle", vehicle, 6);
    }

    private static void waitingOrder() {
        Check.sentence("Queue", "At a crossing, those who want it wait first, in the order of their numbers, then those who were shifted to it");
        // one vehicle a crossing; vehicle 0 is shifted and stands behind vehicle 2, which wants crossing 1
        Run run = ship(1, 10, 1).call("addCrossing", 0, 0, 70, 80).call("addVehicle", 0, 9, 0).call("addVehicle", 0, 10, 0).call("addVehicle", 1, 10, 0);
        behind(aboard(aboard(run, 0, 0, 0, 0, 0), 2, 1, 0, 0, 0), 1, 1);
        run.due(2, "crossing", 1, 9).due(1, "crossing", 1, 8);
        Check.sentence("Queue", "If the crossing sails, they are loaded in this order.");
        Run numbers = ship(1, 30, 1);
        for (int i = 0; i < 4; i++) {
            numbers.call("addVehicle", 0, 10, 0);
        }
        behind(aboard(aboard(aboard(numbers, 0, 0, 0, 0, 0), 1, 0, 0, 1, 0), 2, 0, 0, 2, 0), 3, 0);
    }

    private static void shiftedOrder() {
        Check.sentence("Queue", "in the order in which they were shifted, that is, by the crossings which they left and then as they waited there");
        // the crossings 2 and 1 are decided before 0, and both are cancelled by the wind of the hours 1 and 2
        Run run = new Run().call("addShip", 100, 1, 200, 50).call("addBerth", 300, 1).call("addCrossing", 0, 0, 300, 360);
        run.call("addCrossing", 0, 0, 130, 140).call("addCrossing", 0, 0, 70, 80).call("setWind", 1, 51).call("setWind", 2, 51);
        int[] wanted = {1, 2, 0, 1, 2, 0};
        for (int crossing : wanted) {
            run.call("addVehicle", crossing, 5, 3);
        }
        int[] order = {2, 5, 1, 4, 0, 3};
        for (int i = 0; i < 6; i++) {
            aboard(run, order[i], 0, 0, i, wanted[order[i]] == 0 ? 0 : 1);
        }
        run.due(6, "crossing", 0, 9).due(2, "crossing", 1, 9).due(2, "crossing", 2, 9).due(4, "account", 9);
        Check.sentence("Queue", "The crossings are gone through in the order in which they are decided.");
        // those shifted to crossing 1 wait there behind those who want it, and are shifted on so
        run.call("setWind", 2, 50).call("addVehicle", 1, 30, 0);
        int[] then = {0, 3, 6, 1, 4};
        for (int i = 0; i < 3; i++) {
            aboard(run, then[i], 1, 0, i, 0);
        }
        run.due(5, "crossing", 1, 9);
        // a port of 3 may not stand behind the port 0, and so 1 and 4 go on
        aboard(aboard(run, 1, 0, 0, 2, 2), 4, 0, 0, 3, 2);
    }

    private static void fullQueue() {
        Check.sentence("Queue", "If it is cancelled, all of them are shifted");
        // all 24 vehicles go through eleven crossings that take none of them, and the last takes as many as there is place for
        Run run = new Run().call("addShip", 100, 1, 10, 50).call("addShip", 100, 4, 60, 50).call("addBerth", 300, 1);
        for (int i = 0; i < 11; i++) {
            run.call("addCrossing", 0, 0, 20 * i, 20 * i + 10);
        }
        run.call("addCrossing", 1, 0, 300, 400);
        for (int i = 0; i < 24; i++) {
            run.call("addVehicle", 0, 11, 2);
        }
        for (int i = 0; i < 12; i++) {
            run.due(24, "crossing", i, 9).due(i < 11 ? 0 : 20, "crossing", i, 8);
        }
        for (int i = 0; i < 24; i++) {
            run.due(11, "vehicle", i, 6).due(i < 20 ? i / 5 : Check.NONE, "vehicle", i, 4).due(i < 20 ? i % 5 : Check.NONE, "vehicle", i, 5);
        }
        run.due(11 * 24, "account", 9).due(20, "account", 4).due(4, "account", 5).due(5, "laneLeft", 11, 3).due(1, "isOrderly");
        // with the first four hours in a gale, it is one shift to the last
        for (int hour = 0; hour < 4; hour++) {
            run.call("setWind", hour, 60);
        }
        run.due(24, "crossing", 0, 9).due(0, "crossing", 1, 9).due(24, "crossing", 11, 9).due(24, "account", 9).due(20, "account", 4);
    }

    private static void departsLater() {
        Check.sentence("Queue", "to the next crossing in the order that sails and whose departure is later than that of the crossing which they leave");
        for (int departure = 60; departure <= 61; departure++) {
            Run run = ship(1, 10, 1).call("addShip", 100, 1, 10, 50).call("addBerth", 300, 1).call("addCrossing", 1, 1, 0, departure);
            run.call("addVehicle", 0, 10, 0).call("addVehicle", 0, 10, 0).due(2, "account", 0);
            if (departure == 60) {
                behind(run, 1, 0).due(0, "crossing", 1, 9);
            } else {
                aboard(run, 1, 1, 0, 0, 1).due(1, "crossing", 1, 9);
            }
        }
        // from a cancelled crossing, too, one that departs at the same time is passed over
        Run cancelled = ship(1, 10, 1).call("addShip", 200, 1, 10, 50).call("addBerth", 200, 1).call("addCrossing", 1, 1, 0, 60);
        cancelled.call("addVehicle", 1, 10, 0).due(2, "crossing", 1, 5);
        behind(cancelled, 0, 0);
        Run earlier = new Run().call("addShip", 100, 1, 10, 50).call("addBerth", 100, 1).call("addBerth", 300, 1);
        earlier.call("addCrossing", 0, 0, 0, 60).call("addCrossing", 0, 1, 0, 60).call("addVehicle", 0, 10, 0);
        behind(earlier.due(2, "crossing", 0, 5).due(0, "crossing", 1, 5), 0, 0);
        aboard(earlier.call("removeCrossing", 1).call("addCrossing", 0, 1, 0, 61), 0, 1, 0, 0, 1);
        // and never to one before it
        Run before = ship(1, 10, 1).call("addCrossing", 0, 0, 70, 80).call("addVehicle", 1, 10, 0).call("addVehicle", 1, 10, 0);
        behind(before.due(0, "crossing", 0, 8), 1, 0);
    }

    private static void withoutRegardToDelays() {
        Check.sentence("Queue", "without regard to delays");
        Run run = ship(1, 10, 1).call("addShip", 100, 1, 10, 50).call("addBerth", 300, 1).call("addCrossing", 1, 1, 0, 61);
        run.call("addVehicle", 0, 10, 0).call("addVehicle", 0, 10, 0).call("addConnection", 0, 110, 60, 1).due(60, "crossing", 0, 4);
        aboard(run, 1, 1, 0, 0, 1);
        // a delay of the next one does not bring it after the crossing which they leave
        Run same = ship(1, 10, 1).call("addShip", 100, 1, 10, 50).call("addBerth", 300, 1).call("addCrossing", 1, 1, 0, 60);
        same.call("addVehicle", 0, 10, 0).call("addVehicle", 0, 10, 0).call("addConnection", 1, 110, 60, 1).due(60, "crossing", 1, 4);
        behind(same, 1, 0);
    }

    private static void oneShift() {
        Check.sentence("Queue", "this is one shift, however many crossings are passed over.");
        Run run = ship(1, 10, 1).call("addVehicle", 0, 10, 0).call("addVehicle", 0, 10, 0);
        // ten crossings that are cancelled, and a twelfth one that sails
        for (int i = 0; i < 10; i++) {
            run.call("addCrossing", 0, 0, 50 + i, 70 + i);
        }
        behind(run, 1, 0);
        run.call("addCrossing", 0, 0, 80, 90).due(2, "account", 0);
        aboard(run, 1, 11, 0, 0, 1).due(1, "account", 9);
        for (int i = 1; i <= 10; i++) {
            run.due(0, "crossing", i, 9);
        }
    }

    private static void leftBehind() {
        Check.sentence("Queue", "Those for whom there is none are left behind.");
        behind(ship(1, 10, 1).call("addVehicle", 0, 11, 0), 0, 0).due(1, "account", 5).due(0, "account", 9).due(0, "account", 4);
        Check.sentence("Promise 21", "where being left behind does not count");
        Run run = ship(1, 10, 1).call("addCrossing", 0, 0, 70, 80).call("addCrossing", 0, 0, 90, 95).call("addVehicle", 0, 11, 0);
        behind(run, 0, 2).due(1, "crossing", 2, 9).due(2, "account", 9);
        // from a last crossing that is cancelled, and from a single one
        behind(run.call("setWind", 1, 51), 0, 0).due(1, "crossing", 0, 9).due(0, "crossing", 2, 9).due(0, "account", 0);
        Check.sentence("Promise 21", "3, 4 and 5 are NONE if it is left behind");
        behind(Run.rich(), 6, 0);
        aboard(Run.rich(), 2, 3, 1, 0, 2);
    }

    private static void lanesOfAShip() {
        Check.sentence("Lanes", "Its lanes are numbered from 0, and each one is as long as the lane length.");
        for (int lanes = 1; lanes <= 4; lanes++) {
            Run run = ship(lanes, 30, 1);
            for (int i = 0; i <= lanes; i++) {
                run.call("addVehicle", 0, 30, 0);
            }
            for (int lane = 0; lane < lanes; lane++) {
                aboard(run, lane, 0, lane, 0, 0).due(0, "laneLeft", 0, lane);
            }
            behind(run, lanes, 0).due(Check.NO_SUCH, "laneLeft", 0, lanes).due(30 * lanes, "account", 8);
        }
    }

    /** A first vehicle in the one lane of a ship, and a second one: whether it may stand behind. */
    private static void second(int ramps, int firstPort, int port, boolean mayStand) {
        Run run = ship(1, 200, ramps).call("addVehicle", 0, 10, firstPort).call("addVehicle", 0, 10, port);
        if (mayStand) {
            aboard(run, 1, 0, 0, 1, 0);
        } else {
            behind(run, 1, 0);
        }
        run.due(1, "isOrderly");
    }

    private static void oneRamp() {
        Check.sentence("Lanes", "a vehicle may stand in a lane if its port is at most that of the last one in it");
        for (int first = 0; first <= 5; first++) {
            for (int port = 0; port <= 5; port++) {
                second(1, first, port, port <= first);
            }
        }
        Check.sentence("Lanes", "Vehicles stand in a lane one behind the other, in the order in which they were loaded.");
        // the port of the last one counts, not that of the first one
        Run run = ship(1, 200, 1).call("addVehicle", 0, 10, 4).call("addVehicle", 0, 10, 2).call("addVehicle", 0, 10, 3).call("addVehicle", 0, 10, 2);
        aboard(behind(run, 2, 0), 3, 0, 0, 2, 0).due(3, "leaves", 0, 0).due(1, "leaves", 0, 1).due(0, "leaves", 0, 2);
    }

    private static void twoRamps() {
        Check.sentence("Lanes", "a vehicle may stand in a lane if its port is at least that of the last one in it");
        for (int first = 0; first <= 5; first++) {
            for (int port = 0; port <= 5; port++) {
                second(2, first, port, port >= first);
            }
        }
        Run run = ship(1, 200, 2).call("addVehicle", 0, 10, 1).call("addVehicle", 0, 10, 3).call("addVehicle", 0, 10, 2).call("addVehicle", 0, 10, 3);
        aboard(behind(run, 2, 0), 3, 0, 0, 2, 0).due(0, "leaves", 0, 0).due(1, "leaves", 0, 1).due(3, "leaves", 0, 2);
    }

    private static void emptyLane() {
        Check.sentence("Lanes", "An empty lane may take every vehicle.");
        for (int ramps = 1; ramps <= 2; ramps++) {
            for (int port = 0; port <= 5; port++) {
                aboard(ship(1, 10, ramps).call("addVehicle", 0, 10, port), 0, 0, 0, 0, 0);
                // also one that the lane before it may not take
                Run run = ship(2, 30, ramps).call("addVehicle", 0, 10, ramps == 1 ? 0 : 5).call("addVehicle", 0, 10, port);
                boolean standsBehind = port == (ramps == 1 ? 0 : 5);
                aboard(run, 1, 0, standsBehind ? 0 : 1, standsBehind ? 1 : 0, 0);
            }
        }
    }

    private static void lengthLeft() {
        Check.sentence("Lanes", "has at least its length left");
        for (int length = 3; length <= 30; length++) {
            Run run = ship(1, 30, 1).call("addVehicle", 0, length, 0);
            int rest = 30 - length;
            if (rest >= 3) {
                aboard(run.again().call("addVehicle", 0, rest, 0), 1, 0, 0, 1, 0).due(0, "laneLeft", 0, 0);
                behind(run.again().call("addVehicle", 0, rest + 1, 0), 1, 0).due(rest, "laneLeft", 0, 0);
            } else {
                behind(run.again().call("addVehicle", 0, 3, 0), 1, 0).due(rest, "laneLeft", 0, 0);
            }
        }
        // the shortest lane and the longest vehicle
        behind(ship(4, 10, 1).call("addVehicle", 0, 30, 0), 0, 0);
        aboard(ship(1, 10, 1).call("addVehicle", 0, 10, 0), 0, 0, 0, 0, 0);
        behind(ship(1, 10, 1).call("addVehicle", 0, 11, 0), 0, 0);
    }

    private static void leastLeft() {
        Check.sentence("Lanes", "to the one that has the least length left, of several the lowest one.");
        // all alike: the lowest one, though the others would do
        aboard(ship(4, 20, 1).call("addVehicle", 0, 5, 0), 0, 0, 0, 0, 0);
        // 9, 8, 8 and 20 are left: the vehicle of 8 goes to lane 1, the next one to lane 2, a vehicle of 9 to lane 0
        Run run = ship(4, 20, 1).call("addVehicle", 0, 11, 0).call("addVehicle", 0, 12, 0).call("addVehicle", 0, 12, 0);
        run.call("addVehicle", 0, 8, 0).call("addVehicle", 0, 8, 0).call("addVehicle", 0, 9, 0).call("addVehicle", 0, 3, 0);
        aboard(aboard(aboard(run, 0, 0, 0, 0, 0), 1, 0, 1, 0, 0), 2, 0, 2, 0, 0);
        aboard(aboard(aboard(aboard(run, 3, 0, 1, 1, 0), 4, 0, 2, 1, 0), 5, 0, 0, 1, 0), 6, 0, 3, 0, 0);
        // a lane with less left that may not take it is passed over
        Run port = ship(3, 20, 1).call("addVehicle", 0, 15, 1).call("addVehicle", 0, 10, 2).call("addVehicle", 0, 4, 2).call("addVehicle", 0, 4, 1);
        aboard(aboard(aboard(port, 1, 0, 1, 0, 0), 2, 0, 1, 1, 0), 3, 0, 0, 1, 0);
        // and one that may take it and has too little left, too
        Run length = ship(3, 20, 1).call("addVehicle", 0, 15, 1).call("addVehicle", 0, 14, 1).call("addVehicle", 0, 6, 1);
        aboard(aboard(length, 1, 0, 1, 0, 0), 2, 0, 1, 1, 0);
    }

    private static void noLane() {
        Check.sentence("Lanes", "If there is no such lane, there is no place for it.");
        // one lane may take it and has too little left, the other one has enough and may not take it
        Run run = ship(2, 20, 1).call("addVehicle", 0, 15, 3).call("addVehicle", 0, 10, 1).call("addVehicle", 0, 6, 2);
        behind(aboard(aboard(run, 0, 0, 0, 0, 0), 1, 0, 1, 0, 0), 2, 0).due(2, "crossing", 0, 8).due(3, "crossing", 0, 9);
        // a vehicle behind it that finds a place is loaded all the same
        aboard(run.call("addVehicle", 0, 5, 3), 3, 0, 0, 1, 0);
    }

    private static void laneLeft() {
        Check.sentence("Promise 29", "NO_SUCH_ELEMENT if there is no such crossing, or its ship has no such lane (checked first)");
        Run run = Run.rich();
        run.refusedWith(Check.NO_SUCH, new int[] {-1, 4, 5, MIN, MAX}, 0, "laneLeft", 0, 0);
        run.refusedWith(Check.NO_SUCH, new int[] {-1, 2, 4, MIN, MAX}, 1, "laneLeft", 0, 0);
        // the ship of crossing 1 has one lane, crossing 2 is cancelled
        run.refused(Check.NO_SUCH, "laneLeft", 1, 1).refused(Check.NO_SUCH, "laneLeft", 2, 2).refused(Check.NO_SUCH, "laneLeft", 2, -1);
        run.due(0, "laneLeft", 1, 0).due(8, "laneLeft", 0, 0).due(11, "laneLeft", 0, 1);
        Run.full().due(Check.NO_SUCH, "laneLeft", 11, 4).due(Check.NO_SUCH, "laneLeft", 12, 0).due(Check.NO_SUCH, "laneLeft", 8, 1);
        Check.sentence("Promise 29", "STATE if it is cancelled.");
        run.refused(Check.STATE, "laneLeft", 2, 0).refused(Check.STATE, "laneLeft", 2, 1);
        ship(2, 20, 1).call("setWind", 1, 50).due(20, "laneLeft", 0, 1).call("setWind", 1, 51).refused(Check.STATE, "laneLeft", 0, 1);
        Check.sentence("Promise 29", "Returns what is left of the length of a lane when all vehicles are loaded.");
        ship(1, 200, 1).due(200, "laneLeft", 0, 0).call("addVehicle", 0, 30, 0).due(170, "laneLeft", 0, 0);
        ship(1, 10, 1).call("addVehicle", 0, 10, 0).due(0, "laneLeft", 0, 0);
    }

    private static void laneVehicle() {
        Check.sentence("Promise 30", "NO_SUCH_ELEMENT if there is no such crossing, or its ship has no such lane (checked first)");
        Run run = Run.rich();
        run.refusedWith(Check.NO_SUCH, new int[] {-1, 4, 5, MIN, MAX}, 0, "laneVehicle", 0, 0, 0);
        run.refusedWith(Check.NO_SUCH, new int[] {-1, 2, 4, MIN, MAX}, 1, "laneVehicle", 0, 0, 0);
        run.refused(Check.NO_SUCH, "laneVehicle", 0, 2, -1).refused(Check.NO_SUCH, "laneVehicle", 1, 1, 0).refused(Check.NO_SUCH, "laneVehicle", 2, 2, 0);
        Check.sentence("Promise 30", "NONE if there is no vehicle at this position, as of a crossing that is cancelled.");
        run.refused(Check.NONE, "laneVehicle", 2, 0, 0).refused(Check.NONE, "laneVehicle", 2, 1, 0);
        run.refused(Check.NONE, "laneVehicle", 1, 0, 2).refused(Check.NONE, "laneVehicle", 0, 1, 1);
        Check.sentence("Promise 30", "`index`: the position in the lane, from 0");
        run.due(3, "laneVehicle", 1, 0, 0).due(5, "laneVehicle", 1, 0, 1);
        run.refusedWith(Check.NONE, new int[] {-1, 2, 24, Check.NONE, MIN, MAX}, 2, "laneVehicle", 1, 0, 0);
        Run most = ship(1, 200, 1);
        for (int i = 0; i < 24; i++) {
            most.call("addVehicle", 0, 3, 0);
        }
        most.due(0, "laneVehicle", 0, 0, 0).due(23, "laneVehicle", 0, 0, 23).due(Check.NONE, "laneVehicle", 0, 0, 24);
        ship(2, 20, 1).refused(Check.NONE, "laneVehicle", 0, 0, 0).refused(Check.NONE, "laneVehicle", 0, 1, 0);
    }

    private static void leaves() {
        Check.sentence("Promise 31", "NO_SUCH_ELEMENT if there is no such crossing (checked first)");
        Run run = Run.rich();
        run.refusedWith(Check.NO_SUCH, new int[] {-1, 4, 5, MIN, MAX}, 0, "leaves", 0, 0);
        run.refused(Check.NO_SUCH, "leaves", 4, -1).refused(Check.NO_SUCH, "leaves", -1, 24);
        Check.sentence("Promise 31", "NONE if there is no vehicle at this position, as of a crossing that is cancelled.");
        run.refused(Check.NONE, "leaves", 2, 0).refused(Check.NONE, "leaves", 1, 2);
        Check.sentence("Promise 31", "`index`: the position in this order, from 0");
        run.due(3, "leaves", 1, 0).due(5, "leaves", 1, 1).due(1, "leaves", 0, 0).due(0, "leaves", 0, 1);
        run.refusedWith(Check.NONE, new int[] {-1, 2, 24, MIN, MAX}, 1, "leaves", 0, 0);
        Run most = ship(1, 200, 1);
        for (int i = 0; i < 24; i++) {
            most.call("addVehicle", 0, 3, 5 - i / 4);
        }
        for (int i = 0; i < 24; i++) {
            most.due(23 - i, "leaves", 0, i);
        }
        most.due(Check.NONE, "leaves", 0, 24);
        ship(2, 20, 1).refused(Check.NONE, "leaves", 0, 0);
    }

    private static void leavingOrder() {
        Check.sentence("Promise 31", "port by port, in each port lane by lane from lane 0 on, and from each lane those of this port that are "
                + "the first ones to leave, one after the other, as long as there are some.");
        Run run = ship(4, 30, 1);
        for (int i = 0; i < 24; i++) {
            run.call("addVehicle", 0, 5, 5 - i / 4);
        }
        for (int i = 0; i < 24; i++) {
            aboard(run, i, 0, i / 6, i % 6, 0);
        }
        Check.sentence("Lanes", "A ship calls at the ports in ascending order.");
        // the ports in the lanes are 555544, 443333, 222211 and 110000, and the last one of a lane leaves first
        int[] due = {23, 22, 21, 20, 17, 16, 19, 18, 15, 14, 13, 12, 11, 10, 9, 8, 5, 4, 7, 6, 3, 2, 1, 0};
        for (int i = 0; i < 24; i++) {
            run.due(due[i], "leaves", 0, i);
        }
        run.due(Check.NONE, "leaves", 0, 24);
        Run two = ship(2, 30, 2).call("addVehicle", 0, 20, 1).call("addVehicle", 0, 20, 0).call("addVehicle", 0, 5, 1).call("addVehicle", 0, 5, 1);
        // lane 0: 0 (1), 2 (1), 3 (1); lane 1: 1 (0)
        two.due(1, "leaves", 0, 0).due(0, "leaves", 0, 1).due(2, "leaves", 0, 2).due(3, "leaves", 0, 3).due(Check.NONE, "leaves", 0, 4);
    }

    private static void isOrderly() {
        Check.sentence("Promise 32", "Returns 1 if it is, 0 otherwise.");
        new Run().due(1, "isOrderly");
        Run.easy().due(1, "isOrderly");
        ship(1, 10, 1).due(1, "isOrderly").call("addVehicle", 0, 10, 0).due(1, "isOrderly").call("setWind", 1, 99).due(1, "isOrderly");
        Run.rich().due(1, "isOrderly").call("setBerth", 0, 300, 2).due(1, "isOrderly").call("setBerth", 1, 320, 1).due(1, "isOrderly");
        Run.full().due(1, "isOrderly");
        // nothing was decided before it is asked for, neither the order of the crossings nor what sails
        Run first = ship(1, 100, 1).call("addCrossing", 0, 0, 70, 80).call("addVehicle", 0, 10, 4).call("addVehicle", 1, 10, 3);
        first.again().due(1, "isOrderly");
        first.again().call("account", 4).due(1, "removeCrossing", 0).due(1, "isOrderly");
        first.again().call("account", 4).call("addCrossing", 0, 0, 60, 70).call("addVehicle", 2, 10, 2).due(1, "isOrderly");
        Check.sentence("Promise 32", "all vehicles of it do leave, and no lane is overfull.");
        // lanes that are just full are not overfull
        Run run = ship(4, 30, 2);
        for (int i = 0; i < 24; i++) {
            run.call("addVehicle", 0, 5, i % 6);
        }
        run.due(1, "isOrderly").due(24, "account", 4);
    }

    private static void loadBits() {
        Check.sentence("Promise 34", "NONE if no crossing sails.");
        new Run().refused(Check.NONE, "loadBits");
        Run.easy().refused(Check.NONE, "loadBits");
        ship(1, 10, 1).call("addVehicle", 0, 10, 0).call("setWind", 1, 51).refused(Check.NONE, "loadBits");
        ship(1, 10, 1).call("setWind", 1, 50).due(0, "loadBits");
        Check.sentence("Promise 34", "Returns the bits of the float, as by Float.floatToIntBits");
        ship(1, 10, 1).call("addVehicle", 0, 10, 0).due(Float.floatToIntBits(1.0f), "loadBits");
        ship(1, 10, 1).call("addVehicle", 0, 9, 0).due(Float.floatToIntBits(9 / 10.0f), "loadBits");
        ship(1, 10, 1).call("addVehicle", 0, 5, 0).due(Float.floatToIntBits(0.5f), "loadBits");
        Check.sentence("Promise 34", "the meters of all vehicles aboard divided by the meters of all lanes of crossings that sail, "
                + "both converted to float.");
        // the least load that is not 0, and the greatest sums
        Run least = new Run().call("addShip", 50, 4, 200, 99).call("addBerth", 999, 1);
        for (int i = 0; i < 12; i++) {
            least.call("addCrossing", 0, 0, 10 * i, 10 * i + 10);
        }
        least.due(0, "loadBits").call("addVehicle", 0, 3, 0).due(Float.floatToIntBits(3 / 9600.0f), "loadBits");
        for (int i = 0; i < 23; i++) {
            least.call("addVehicle", i % 12, 30, 0);
        }
        least.due(Float.floatToIntBits(693 / 9600.0f), "loadBits");
        // a crossing that does not sail counts neither with its lanes nor with its vehicles
        Run.rich().due(Float.floatToIntBits(86 / 120.0f), "loadBits");
    }

    private static void bestBerth() {
        Check.sentence("Promise 36", "NO_SUCH_ELEMENT.");
        Run.rich().refusedWith(Check.NO_SUCH, new int[] {-1, 4, 5, MIN, MAX}, 0, "bestBerth", 0);
        Run.easy().refused(Check.NO_SUCH, "bestBerth", 0);
        Run.full().refused(Check.NO_SUCH, "bestBerth", 12);
        Check.sentence("Promise 36", "all else being as it is");
        Run run = Run.rich();
        for (int crossing = 0; crossing < 4; crossing++) {
            run.ask("bestBerth", crossing);
        }
        for (Aftermath aftermath : Aftermath.values()) {
            Check.holds(aftermath + " is as it was", aftermath.shown(Run.rich()).equals(aftermath.shown(run.again())));
        }
        // a single berth, with and without a vehicle, sailing and not
        ship(1, 10, 1).due(0, "bestBerth", 0).call("addVehicle", 0, 10, 0).due(0, "bestBerth", 0).call("setWind", 1, 51).due(0, "bestBerth", 0);
    }

    private static void bestOfSeveral() {
        Check.sentence("Promise 36", "of several, the lowest one.");
        Run run = new Run().call("addShip", 100, 1, 10, 50).call("addBerth", 300, 1).call("addBerth", 300, 1).call("addBerth", 300, 1);
        run.call("addCrossing", 0, 2, 0, 60).due(0, "bestBerth", 0).call("addVehicle", 0, 10, 0).due(0, "bestBerth", 0);
        run.call("setBerth", 0, 149, 1).due(1, "bestBerth", 0).call("setBerth", 1, 149, 1).due(2, "bestBerth", 0);
        run.call("setBerth", 2, 149, 1).due(0, "bestBerth", 0).call("setBerth", 1, 150, 1).due(1, "bestBerth", 0).due(2, "crossing", 0, 1);
        // one vehicle more is enough
        Run more = ship(1, 20, 1).call("addBerth", 300, 2).call("addVehicle", 0, 5, 0).due(0, "bestBerth", 0);
        more.call("addVehicle", 0, 5, 1).due(1, "bestBerth", 0);
        // crossing 1 never sails: the only berth and the only ship are taken, and there is no berth 1
        Run only = ship(1, 20, 1).call("addCrossing", 0, 0, 0, 70).call("addVehicle", 1, 5, 0);
        for (int hour = 0; hour <= 2; hour++) {
            only.call("setTide", hour, 999);
        }
        only.due(0, "bestBerth", 1).due(0, "bestBerth", 0);
        Run oneBerth = only.again().call("addShip", 60, 1, 20, 50).call("addCrossing", 1, 0, 0, 80).call("addVehicle", 2, 5, 0);
        oneBerth.due(0, "bestBerth", 2).due(0, "bestBerth", 0).due(0, "account", 4);
        Check.sentence("Promise 36", "the most vehicles would be aboard of all crossings together");
        // at berth 0 crossing 0 would keep out crossing 1, with its two vehicles
        Run other = new Run().call("addShip", 100, 1, 20, 50).call("addShip", 100, 1, 20, 50).call("addBerth", 300, 1).call("addBerth", 300, 1);
        other.call("addCrossing", 0, 0, 0, 60).call("addCrossing", 1, 0, 30, 70).call("addVehicle", 0, 5, 0);
        other.due(0, "bestBerth", 0).call("addVehicle", 1, 5, 0).due(1, "bestBerth", 0).due(1, "bestBerth", 1);
    }
}
