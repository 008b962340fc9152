/** The boundary cases of promises 1 to 11: what is added, removed and set. */
public final class EdgesOfDataTest {
    private static final int MIN = Integer.MIN_VALUE;
    private static final int MAX = Integer.MAX_VALUE;

    private EdgesOfDataTest() {
    }

    public static void main(String[] args) {
        newObject();
        ships();
        berths();
        crossings();
        vehicles();
        connections();
        removals();
        setBerth();
        setTide();
        setWind();
        setMargin();
        Check.finish();
    }

    private static void newObject() {
        emptyPort();
        nothingToChangeInAnEmptyPort();
        objectsAreApart();
    }

    private static void emptyPort() {
        Check.sentence("Promise 1", "Creates a port without ships, berths and crossings.");
        Run run = new Run();
        for (int what = 0; what <= 5; what++) {
            run.due(0, "count", what);
        }
        for (int what = 0; what <= 9; what++) {
            run.due(0, "account", what);
        }
        for (int i = -1; i <= 1; i++) {
            run.due(Check.NO_SUCH, "ship", i, 0).due(Check.NO_SUCH, "berth", i, 0).due(Check.NO_SUCH, "crossing", i, 0);
            run.due(Check.NO_SUCH, "vehicle", i, 0).due(Check.NO_SUCH, "connection", i, 0).due(Check.NO_SUCH, "decided", i);
            run.due(Check.NO_SUCH, "laneLeft", i, 0).due(Check.NO_SUCH, "laneVehicle", i, 0, 0);
            run.due(Check.NO_SUCH, "leaves", i, 0).due(Check.NO_SUCH, "bestBerth", i);
            run.due(Check.NO_SUCH, "water", i, 0).due(Check.NO_SUCH, "firstTime", i, i, 0);
        }
        run.due(1, "isOrderly").due(Check.NONE, "loadBits").due(0, "sailingIf", 0).due(0, "sailingIf", 200);
        run.due(Check.NONE, "faultPosition").due(Check.NONE, "undo").due(Check.STATE, "restore").due(0, "save");
    }

    private static void nothingToChangeInAnEmptyPort() {
        Check.sentence("Promise 1", "without ships, berths and crossings");
        Run run = new Run();
        run.refused(Check.NO_SUCH, "addCrossing", 0, 0, 0, 1);
        run.refused(Check.NO_SUCH, "addVehicle", 0, 3, 0);
        run.refused(Check.NO_SUCH, "addConnection", 0, 0, 0, 1);
        run.refused(Check.NO_SUCH, "removeCrossing", 0);
        run.refused(Check.NO_SUCH, "setBerth", 0, 300, 1);
        run.refused(Check.NO_SUCH, "layDown", 0, 0, 0, 0);
        run.refused(Check.NO_SUCH, "layDown", 1, 0, 1, 0);
        run.refused(Check.NONE, "takeOut", 0, 0);
        run.refused(Check.NONE, "undo");
        run.refused(Check.STATE, "restore");
        run.refusedRead(Check.BAD, 0);
        run.due(0, "addShip", 50, 1, 10, 0).due(0, "addBerth", 0, 1).due(1, "undo").due(0, "undo").due(Check.NONE, "undo");
    }

    private static void objectsAreApart() {
        Check.sentence("Promise 1", "Creates a port");
        Run first = Run.rich();
        Run second = new Run().due(0, "count", 0).due(0, "tide", 2).due(50, "count", 6).due(0, "count", 5);
        second.due(Check.NONE, "lying", 0, 1).due(Check.STATE, "restore").due(Check.NONE, "undo").due(Check.NONE, "faultPosition");
        first.due(2, "count", 0).due(15, "tide", 2).due(60, "count", 6);
    }

    private static void ships() {
        shipRanges();
        shipValuesFirst();
        shipsFull();
        shipNumbers();
        shipExtremes();
    }

    private static void shipRanges() {
        Check.sentence("Promise 2", "`draft`: the draft, 50 to 900");
        shipRange(0, 50, 900);
        Check.sentence("Promise 2", "`lanes`: the number of lanes, 1 to 4");
        shipRange(1, 1, 4);
        Check.sentence("Promise 2", "`length`: the lane length, 10 to 200");
        shipRange(2, 10, 200);
        Check.sentence("Promise 2", "`windLimit`: the wind limit, 0 to 99");
        shipRange(3, 0, 99);
    }

    private static void shipRange(int place, int low, int high) {
        int[] ship = {100, 2, 20, 50};
        Run.rich().range(Check.BAD, low, high, place, "addShip", ship);
        for (int end : new int[] {low, high}) {
            ship[place] = end;
            Run.rich().due(2, "addShip", ship).due(end, "ship", 2, place);
        }
    }

    private static void shipValuesFirst() {
        Check.sentence("Promise 2", "BAD_VALUE (checked first)");
        Run full = Run.full();
        full.refused(Check.BAD, "addShip", 49, 1, 10, 0).refused(Check.BAD, "addShip", 50, 5, 10, 0);
        full.refused(Check.BAD, "addShip", 50, 1, 201, 0).refused(Check.BAD, "addShip", 50, 1, 10, -1);
        full.refused(Check.FULL, "addShip", 50, 1, 10, 0);
    }

    private static void shipsFull() {
        Check.sentence("Promise 2", "FULL if there are 4 ships.");
        Run run = Run.easy().call("addShip", 100, 1, 10, 0).call("addShip", 100, 1, 10, 0);
        run.due(3, "addShip", 50, 1, 10, 0);
        run.refused(Check.FULL, "addShip", 60, 1, 10, 0).due(4, "count", 0).due(50, "ship", 3, 0);
        run.due(4, "undo").due(3, "count", 0).due(3, "addShip", 70, 1, 10, 0).due(70, "ship", 3, 0);
    }

    private static void shipNumbers() {
        Check.sentence("Ships", "There are at most 4 ships, numbered from 0 in the order in which they were added.");
        Run run = new Run();
        for (int i = 0; i < 4; i++) {
            run.due(Check.NO_SUCH, "ship", i, 0).due(i, "addShip", 60 + i, 1 + i, 30 + i, i);
        }
        for (int i = 0; i < 4; i++) {
            run.due(60 + i, "ship", i, 0).due(1 + i, "ship", i, 1).due(30 + i, "ship", i, 2).due(i, "ship", i, 3);
        }
        run.refused(Check.NO_SUCH, "ship", 4, 0);
    }

    private static void shipExtremes() {
        Check.sentence("Ships", "A ship has a draft from 50 to 900, a number of lanes from 1 to 4, "
                + "a lane length from 10 to 200 meters, and a wind limit from 0 to 99.");
        Run run = new Run().due(0, "addShip", 50, 1, 10, 0).due(1, "addShip", 900, 4, 200, 99);
        run.dueRows("ship", new int[][] {{50, 0, 0}, {1, 0, 1}, {10, 0, 2}, {0, 0, 3},
            {900, 1, 0}, {4, 1, 1}, {200, 1, 2}, {99, 1, 3}});
        run.call("addBerth", 999, 1).call("setMargin", 0).call("addCrossing", 0, 0, 0, 1).call("addCrossing", 1, 0, 1, 2);
        run.due(10, "laneLeft", 0, 0).due(Check.NO_SUCH, "laneLeft", 0, 1);
        run.due(200, "laneLeft", 1, 0).due(200, "laneLeft", 1, 3).due(Check.NO_SUCH, "laneLeft", 1, 4);
    }

    private static void berths() {
        berthRanges();
        berthValuesFirst();
        berthsFull();
        berthNumbers();
        berthExtremes();
    }

    private static void berthRanges() {
        Check.sentence("Promise 3", "`depth`: the depth, 0 to 999");
        Run.rich().range(Check.BAD, 0, 999, 0, "addBerth", 300, 1);
        Run.rich().due(2, "addBerth", 0, 1).due(0, "berth", 2, 0);
        Run.rich().due(2, "addBerth", 999, 1).due(999, "berth", 2, 0);
        Check.sentence("Promise 3", "`ramps`: the number of ramps, 1 or 2");
        Run.rich().range(Check.BAD, 1, 2, 1, "addBerth", 300, 1);
        Run.rich().due(2, "addBerth", 300, 1).due(1, "berth", 2, 1);
        Run.rich().due(2, "addBerth", 300, 2).due(2, "berth", 2, 1);
    }

    private static void berthValuesFirst() {
        Check.sentence("Promise 3", "BAD_VALUE (checked first)");
        Run.full().refused(Check.BAD, "addBerth", 1000, 1).refused(Check.BAD, "addBerth", 300, 0)
                .refused(Check.FULL, "addBerth", 999, 2);
    }

    private static void berthsFull() {
        Check.sentence("Promise 3", "FULL if there are 3 berths.");
        Run run = Run.easy().call("addBerth", 310, 1).due(2, "addBerth", 320, 2);
        run.refused(Check.FULL, "addBerth", 330, 1).due(3, "count", 1).due(320, "berth", 2, 0);
        run.due(3, "undo").due(2, "count", 1).due(2, "addBerth", 340, 1).due(340, "berth", 2, 0);
    }

    private static void berthNumbers() {
        Check.sentence("Berths", "There are at most 3 berths, numbered from 0 in the order in which they were added.");
        Run run = new Run();
        for (int i = 0; i < 3; i++) {
            run.due(Check.NO_SUCH, "berth", i, 0).due(i, "addBerth", 60 + i, 2 - i % 2);
        }
        for (int i = 0; i < 3; i++) {
            run.due(60 + i, "berth", i, 0).due(2 - i % 2, "berth", i, 1);
        }
        run.refused(Check.NO_SUCH, "berth", 3, 0);
    }

    private static void berthExtremes() {
        Check.sentence("Berths", "A berth has a depth in centimeters below the chart, from 0 to 999, and a number of ramps, 1 or 2.");
        Run run = new Run().due(0, "addBerth", 0, 1).due(1, "addBerth", 999, 2);
        run.due(0, "water", 0, 0).due(999, "water", 1, 0);
        run.call("setTide", 0, -999).due(-999, "water", 0, 0).due(0, "water", 1, 0);
        run.call("setTide", 0, 999).due(999, "water", 0, 0).due(1998, "water", 1, 0);
        run.due(1, "berth", 0, 1).due(2, "berth", 1, 1);
    }

    private static void crossings() {
        crossingElementsFirst();
        arrival();
        departure();
        crossingTimesWrapAround();
        crossingTimesSecond();
        crossingsFull();
        crossingNumbers();
        crossingExtremes();
    }

    private static void crossingElementsFirst() {
        Check.sentence("Promise 4", "NO_SUCH_ELEMENT if there is no such ship or berth (checked first)");
        Run run = Run.rich();
        int[] none = {-1, 2, 3, MIN, MAX};
        run.refusedWith(Check.NO_SUCH, none, 0, "addCrossing", 0, 0, 300, 310);
        run.refusedWith(Check.NO_SUCH, none, 1, "addCrossing", 0, 0, 300, 310);
        run.refusedWith(Check.NO_SUCH, none, 0, "addCrossing", 0, 0, -1, 310);
        run.refusedWith(Check.NO_SUCH, none, 1, "addCrossing", 0, 0, 300, 3000);
        Run.full().refused(Check.NO_SUCH, "addCrossing", 4, 0, 300, 310).refused(Check.NO_SUCH, "addCrossing", 0, 3, 310, 310);
        run.again().due(4, "addCrossing", 0, 0, 300, 310);
        run.again().due(4, "addCrossing", 1, 1, 300, 310).due(1, "crossing", 4, 0).due(1, "crossing", 4, 1);
        new Run().call("addShip", 100, 1, 10, 0).refused(Check.NO_SUCH, "addCrossing", 0, 0, 300, 310);
        new Run().call("addBerth", 100, 1).refused(Check.NO_SUCH, "addCrossing", 0, 0, 300, 310);
    }

    private static void arrival() {
        Check.sentence("Promise 4", "`arrival`: the arrival, at least 0");
        Run.rich().refused(Check.BAD, "addCrossing", 0, 0, -1, 1).refused(Check.BAD, "addCrossing", 0, 0, -1, 0)
                .refused(Check.BAD, "addCrossing", 0, 0, MIN, 1)
                .due(4, "addCrossing", 0, 0, 0, 1).due(0, "crossing", 4, 2).due(1, "crossing", 4, 3)
                .due(5, "addCrossing", 0, 0, 1, 2).due(1, "crossing", 5, 2);
    }

    private static void departure() {
        Check.sentence("Promise 4", "`departure`: the departure, 1 to 300 minutes later, at most 2800");
        Run run = Run.rich();
        run.refusedWith(Check.BAD, new int[] {699, 700, 1001, 1002, 0, -1}, 3, "addCrossing", 0, 0, 700, 800);
        run.again().due(4, "addCrossing", 0, 0, 700, 701).due(701, "crossing", 4, 3);
        run.again().due(4, "addCrossing", 0, 0, 700, 1000).due(1000, "crossing", 4, 3);
        run.again().due(4, "addCrossing", 0, 0, 0, 300).due(300, "crossing", 4, 3);
        run.refused(Check.BAD, "addCrossing", 0, 0, 0, 301);
        run.refused(Check.BAD, "addCrossing", 0, 0, 2500, 2801);
        run.refused(Check.BAD, "addCrossing", 0, 0, 2501, 2801);
        run.refused(Check.BAD, "addCrossing", 0, 0, 2800, 2800);
        run.refused(Check.BAD, "addCrossing", 0, 0, 2800, 2801);
        run.due(4, "addCrossing", 0, 0, 2500, 2800).due(2800, "crossing", 4, 3);
        run.due(5, "addCrossing", 1, 1, 2799, 2800).due(2799, "crossing", 5, 2);
    }

    private static void crossingTimesWrapAround() {
        Check.sentence("Promise 4", "1 to 300 minutes later");
        // the difference of each pair is from 1 to 300 by the wrap-around of an int
        int[][] pairs = {{MAX, MIN}, {MAX - 1, MIN + 298}, {MIN, MIN + 1}, {MAX - 300, MAX}, {-100, 100}, {MIN, MIN + 300}};
        Run run = Run.rich();
        for (int[] pair : pairs) {
            run.refused(Check.BAD, "addCrossing", 0, 0, pair[0], pair[1]);
        }
    }

    private static void crossingTimesSecond() {
        Check.sentence("Promise 4", "BAD_VALUE if a time is not as described (checked second)");
        Run.full().refused(Check.BAD, "addCrossing", 0, 0, -1, 5).refused(Check.BAD, "addCrossing", 0, 0, 5, 5)
                .refused(Check.BAD, "addCrossing", 0, 0, 5, 306).refused(Check.BAD, "addCrossing", 0, 0, 2700, 2801)
                .refused(Check.FULL, "addCrossing", 0, 0, 5, 305);
    }

    private static void crossingsFull() {
        Check.sentence("Promise 4", "FULL if there are 12 crossings.");
        Run run = Run.easy();
        for (int i = 0; i < 11; i++) {
            run.call("addCrossing", 0, 0, 10 * i, 10 * i + 10);
        }
        run.due(11, "addCrossing", 0, 0, 200, 210);
        run.refused(Check.FULL, "addCrossing", 0, 0, 300, 310).due(12, "count", 2);
        run.due(11, "removeCrossing", 0).due(11, "addCrossing", 0, 0, 300, 310).due(300, "crossing", 11, 2);
        run.refused(Check.FULL, "addCrossing", 0, 0, 300, 310);
        run.due(5, "undo").due(4, "undo").due(12, "count", 2).due(0, "crossing", 0, 2);
        run.refused(Check.FULL, "addCrossing", 0, 0, 300, 310);
    }

    private static void crossingNumbers() {
        Check.sentence("Crossings", "There are at most 12 crossings, numbered from 0 in the order in which they were added.");
        Run run = Run.easy();
        for (int i = 0; i < 12; i++) {
            // the later ones depart earlier, which does not matter for the numbers
            run.due(Check.NO_SUCH, "crossing", i, 2).due(i, "addCrossing", 0, 0, 500 - 20 * i, 510 - 20 * i);
        }
        for (int i = 0; i < 12; i++) {
            run.due(500 - 20 * i, "crossing", i, 2);
        }
        run.refused(Check.NO_SUCH, "crossing", 12, 2);
    }

    private static void crossingExtremes() {
        Check.sentence("Crossings", "a departure that is 1 to 300 minutes later and at most 2800");
        Run run = Run.easy().due(0, "addCrossing", 0, 0, 0, 1).due(1, "addCrossing", 0, 0, 1, 301);
        run.due(2, "addCrossing", 0, 0, 2499, 2799).due(3, "addCrossing", 0, 0, 2799, 2800);
        run.due(4, "account", 0).due(2800, "crossing", 3, 3).due(2799, "crossing", 3, 2);
        run.refused(Check.BAD, "addCrossing", 0, 0, 2499, 2800).due(4, "account", 0);
    }

    private static void vehicles() {
        vehicleCrossingFirst();
        vehicleRanges();
        vehicleValuesSecond();
        vehiclesFull();
        vehicleNumbers();
        vehicleExtremes();
    }

    private static void vehicleCrossingFirst() {
        Check.sentence("Promise 5", "NO_SUCH_ELEMENT if there is no such crossing (checked first)");
        int[] none = {-1, 4, 5, MIN, MAX};
        Run.rich().refusedWith(Check.NO_SUCH, none, 0, "addVehicle", 0, 3, 0)
                .refusedWith(Check.NO_SUCH, none, 0, "addVehicle", 0, 2, 6)
                .due(7, "addVehicle", 3, 3, 0).due(3, "vehicle", 7, 0).due(8, "addVehicle", 0, 3, 0);
        Run.full().refused(Check.NO_SUCH, "addVehicle", 12, 3, 0).refused(Check.NO_SUCH, "addVehicle", -1, 31, 0);
    }

    private static void vehicleRanges() {
        Check.sentence("Promise 5", "`length`: the length, 3 to 30");
        Run.rich().range(Check.BAD, 3, 30, 1, "addVehicle", 1, 7, 2);
        Run.rich().due(7, "addVehicle", 1, 3, 2).due(3, "vehicle", 7, 1);
        Run.rich().due(7, "addVehicle", 1, 30, 2).due(30, "vehicle", 7, 1);
        Check.sentence("Promise 5", "`port`: the port, 0 to 5");
        Run.rich().range(Check.BAD, 0, 5, 2, "addVehicle", 1, 7, 2);
        Run.rich().due(7, "addVehicle", 1, 7, 0).due(0, "vehicle", 7, 2);
        Run.rich().due(7, "addVehicle", 1, 7, 5).due(5, "vehicle", 7, 2);
    }

    private static void vehicleValuesSecond() {
        Check.sentence("Promise 5", "BAD_VALUE (checked second)");
        Run.full().refused(Check.BAD, "addVehicle", 0, 2, 0).refused(Check.BAD, "addVehicle", 0, 31, 0)
                .refused(Check.BAD, "addVehicle", 0, 3, -1).refused(Check.BAD, "addVehicle", 11, 3, 6)
                .refused(Check.FULL, "addVehicle", 11, 30, 5);
    }

    private static void vehiclesFull() {
        Check.sentence("Promise 5", "FULL if there are 24 vehicles.");
        Run run = Run.easy().call("addCrossing", 0, 0, 0, 10).call("addCrossing", 0, 0, 20, 30);
        for (int i = 0; i < 23; i++) {
            run.call("addVehicle", i == 4 ? 1 : 0, 3 + i, 0);
        }
        run.due(23, "addVehicle", 0, 29, 1).refused(Check.FULL, "addVehicle", 0, 28, 1);
        run.due(24, "count", 3).due(29, "vehicle", 23, 1);
        run.due(1, "removeCrossing", 1).due(23, "count", 3).due(23, "addVehicle", 0, 27, 1).due(27, "vehicle", 23, 1);
        run.refused(Check.FULL, "addVehicle", 0, 28, 1);
    }

    private static void vehicleNumbers() {
        Check.sentence("Queue", "There are at most 24 vehicles, numbered from 0 in the order in which they were added.");
        Run run = Run.easy().call("addCrossing", 0, 0, 0, 10).call("addCrossing", 0, 0, 20, 30);
        for (int i = 0; i < 24; i++) {
            run.due(Check.NO_SUCH, "vehicle", i, 1).due(i, "addVehicle", 1 - i % 2, 3 + i, i % 6);
        }
        for (int i = 0; i < 24; i++) {
            run.due(1 - i % 2, "vehicle", i, 0).due(3 + i, "vehicle", i, 1).due(i % 6, "vehicle", i, 2);
        }
        run.refused(Check.NO_SUCH, "vehicle", 24, 1);
    }

    private static void vehicleExtremes() {
        Check.sentence("Queue", "a length from 3 to 30 meters and a port from 0 to 5");
        Run run = new Run().call("addShip", 100, 1, 33, 50).call("addBerth", 300, 2).call("addCrossing", 0, 0, 0, 10);
        run.due(0, "addVehicle", 0, 30, 0).due(1, "addVehicle", 0, 3, 5);
        run.due(33, "account", 7).due(0, "laneLeft", 0, 0).due(0, "leaves", 0, 0).due(1, "leaves", 0, 1);
    }

    private static void connections() {
        connectionCrossingFirst();
        connectionRanges();
        connectionValuesSecond();
        connectionsFull();
        connectionNumbers();
        connectionExtremes();
    }

    private static void connectionCrossingFirst() {
        Check.sentence("Promise 6", "NO_SUCH_ELEMENT if there is no such crossing (checked first)");
        int[] none = {-1, 4, 5, MIN, MAX};
        Run.rich().refusedWith(Check.NO_SUCH, none, 0, "addConnection", 0, 0, 0, 1)
                .refusedWith(Check.NO_SUCH, none, 0, "addConnection", 0, -1, 61, 0)
                .due(3, "addConnection", 3, 0, 0, 1).due(3, "connection", 3, 0);
        Run.full().refused(Check.NO_SUCH, "addConnection", 12, 0, 0, 1).refused(Check.NO_SUCH, "addConnection", -1, 0, 0, 0);
    }

    private static void connectionRanges() {
        Check.sentence("Promise 6", "`time`: the time at which the feeder arrives, 0 to 2800");
        connectionRange(1, 0, 2800);
        Check.sentence("Promise 6", "`patience`: the patience, 0 to 60");
        connectionRange(2, 0, 60);
        Check.sentence("Promise 6", "`passengers`: the number of passengers, 1 to 999");
        connectionRange(3, 1, 999);
    }

    private static void connectionRange(int place, int low, int high) {
        int[] connection = {3, 180, 30, 8};
        Run.rich().range(Check.BAD, low, high, place, "addConnection", connection);
        for (int end : new int[] {low, high}) {
            connection[place] = end;
            Run.rich().due(3, "addConnection", connection).due(end, "connection", 3, place);
        }
    }

    private static void connectionValuesSecond() {
        Check.sentence("Promise 6", "BAD_VALUE (checked second)");
        Run.full().refused(Check.BAD, "addConnection", 0, 2801, 0, 1).refused(Check.BAD, "addConnection", 0, 0, 61, 1)
                .refused(Check.BAD, "addConnection", 0, 0, 0, 0).refused(Check.BAD, "addConnection", 0, 0, 0, 1000)
                .refused(Check.FULL, "addConnection", 0, 2800, 60, 999);
    }

    private static void connectionsFull() {
        Check.sentence("Promise 6", "FULL if there are 8 connections.");
        Run run = Run.easy().call("addCrossing", 0, 0, 0, 10).call("addCrossing", 0, 0, 20, 30);
        for (int i = 0; i < 7; i++) {
            run.call("addConnection", i == 4 ? 1 : 0, i, i, 1 + i);
        }
        run.due(7, "addConnection", 0, 70, 7, 77).refused(Check.FULL, "addConnection", 0, 80, 8, 88);
        run.due(8, "count", 4).due(77, "connection", 7, 3);
        run.due(1, "removeCrossing", 1).due(7, "count", 4).due(7, "addConnection", 0, 90, 9, 99).due(99, "connection", 7, 3);
        run.refused(Check.FULL, "addConnection", 0, 80, 8, 88);
    }

    private static void connectionNumbers() {
        Check.sentence("Connections", "There are at most 8 connections, numbered from 0 in the order in which they were added.");
        Run run = Run.easy().call("addCrossing", 0, 0, 0, 10).call("addCrossing", 0, 0, 20, 30);
        for (int i = 0; i < 8; i++) {
            run.due(Check.NO_SUCH, "connection", i, 1).due(i, "addConnection", 1 - i % 2, 80 - i, i, 9 + i);
        }
        for (int i = 0; i < 8; i++) {
            run.due(1 - i % 2, "connection", i, 0).due(80 - i, "connection", i, 1).due(i, "connection", i, 2).due(9 + i, "connection", i, 3);
        }
        run.refused(Check.NO_SUCH, "connection", 8, 1);
    }

    private static void connectionExtremes() {
        Check.sentence("Connections", "arrives at a time from 0 to 2800, to a crossing, and has a patience from 0 to 60 "
                + "and a number of passengers from 1 to 999.");
        Run run = Run.easy().call("addCrossing", 0, 0, 2650, 2750).call("addCrossing", 0, 0, 5, 10);
        run.due(0, "addConnection", 0, 2800, 60, 999).due(1, "addConnection", 1, 0, 0, 1).due(2, "addConnection", 0, 2800, 59, 1);
        // the ready times are 2810, the departure plus 60, and 10, the departure
        run.due(1, "connection", 0, 4).due(0, "connection", 1, 4).due(2, "connection", 2, 4);
        run.due(60, "crossing", 0, 4).due(1000, "account", 2).due(1, "account", 3);
    }

    private static void removals() {
        removeCrossing();
        removeToTheLast();
        removeWithWhatBelongsToIt();
        removeFromFull();
        numberedAnew();
    }

    private static void removeCrossing() {
        Check.sentence("Promise 7", "NO_SUCH_ELEMENT.");
        Run.rich().refusedWith(Check.NO_SUCH, new int[] {-1, 4, 5, MIN, MAX}, 0, "removeCrossing", 0);
        Run.rich().due(3, "removeCrossing", 3).refused(Check.NO_SUCH, "removeCrossing", 3);
        Run.rich().due(3, "removeCrossing", 0).due(3, "count", 2);
        Run.full().refused(Check.NO_SUCH, "removeCrossing", 12).due(11, "removeCrossing", 11);
    }

    private static void removeToTheLast() {
        Check.sentence("Promise 7", "Returns the number of crossings that remain");
        Run run = Run.rich();
        for (int left = 3; left >= 0; left--) {
            run.due(left, "removeCrossing", 0).due(left, "count", 2);
        }
        run.due(0, "count", 3).due(0, "count", 4).due(2, "count", 0).due(2, "count", 1);
        run.refused(Check.NO_SUCH, "removeCrossing", 0);
        run.due(0, "addCrossing", 0, 0, 30, 60).due(0, "crossing", 0, 9).due(5, "undo");
        run.due(4, "undo").due(1, "count", 2);
    }

    private static void removeWithWhatBelongsToIt() {
        Check.sentence("Promise 7", "Removes a crossing with its connections and the vehicles that want it.");
        // crossing 2 of rich has one vehicle and no connection; vehicle 2 is shifted to crossing 3, which it does not want
        Run.rich().due(3, "removeCrossing", 2).due(6, "count", 3).due(3, "count", 4);
        Run.rich().due(3, "vehicle", 2, 3).due(3, "removeCrossing", 3).due(5, "count", 3).due(2, "count", 4)
                .due(Check.NONE, "vehicle", 2, 3).due(2, "vehicle", 2, 0).due(1, "vehicle", 2, 6);
        // a crossing that no vehicle wants and no connection leads to
        Run.rich().call("addCrossing", 0, 0, 900, 910).due(4, "removeCrossing", 4).due(7, "count", 3).due(3, "count", 4);
    }

    private static void removeFromFull() {
        Check.sentence("Promise 7", "with its connections and the vehicles that want it");
        Run run = Run.easy().call("addCrossing", 0, 0, 0, 10).call("addCrossing", 0, 0, 20, 30);
        for (int i = 0; i < 24; i++) {
            run.call("addVehicle", 1, 3 + i, 0);
        }
        for (int i = 0; i < 8; i++) {
            run.call("addConnection", 1, i, 0, 1);
        }
        run.again().due(1, "removeCrossing", 0).due(24, "count", 3).due(8, "count", 4)
                .due(0, "vehicle", 0, 0).due(0, "vehicle", 23, 0).due(26, "vehicle", 23, 1).due(0, "connection", 7, 0);
        run.again().due(1, "removeCrossing", 1).due(0, "count", 3).due(0, "count", 4)
                .due(Check.NO_SUCH, "vehicle", 0, 0).due(Check.NO_SUCH, "connection", 0, 0)
                .due(0, "addVehicle", 0, 3, 0).due(0, "addConnection", 0, 0, 0, 1).due(5, "undo").due(4, "undo")
                .due(3, "undo").due(24, "count", 3).due(8, "count", 4).due(26, "vehicle", 23, 1).due(7, "connection", 7, 1);
    }

    private static void numberedAnew() {
        Check.sentence("Promise 7", "Crossings, connections and vehicles are numbered anew in their order.");
        for (int gone = 0; gone < 12; gone++) {
            Run run = Run.full().due(11, "removeCrossing", gone);
            for (int i = 0; i < 11; i++) {
                run.due(100 * (i < gone ? i : i + 1), "crossing", i, 2);
            }
            // the vehicles gone and gone + 12 wanted it
            int v = 0;
            for (int i = 0; i < 24; i++) {
                if (i % 12 != gone) {
                    run.due(i % 12 < gone ? i % 12 : i % 12 - 1, "vehicle", v, 0).due(3 + i, "vehicle", v, 1);
                    v++;
                }
            }
            run.due(22, "count", 3).due(gone < 8 ? 7 : 8, "count", 4);
            for (int i = 0; i < (gone < 8 ? 7 : 8); i++) {
                run.due(i, "connection", i, 0).due(5 + (i < gone ? i : i + 1), "connection", i, 3);
            }
        }
    }

    private static void setBerth() {
        Check.sentence("Promise 8", "NO_SUCH_ELEMENT (checked first)");
        int[] none = {-1, 2, 3, MIN, MAX};
        Run.rich().refusedWith(Check.NO_SUCH, none, 0, "setBerth", 0, 300, 1)
                .refusedWith(Check.NO_SUCH, none, 0, "setBerth", 0, -1, 3).due(3202, "setBerth", 1, 300, 1);
        Check.sentence("Promise 8", "BAD_VALUE.");
        Run.rich().refused(Check.BAD, "setBerth", 0, 1000, 3).due(300, "berth", 0, 0).due(1, "berth", 0, 1);
        Check.sentence("Promise 8", "`depth`: the depth, 0 to 999");
        Run.rich().range(Check.BAD, 0, 999, 1, "setBerth", 0, 300, 1);
        Check.sentence("Promise 8", "`ramps`: the number of ramps, 1 or 2");
        Run.rich().range(Check.BAD, 1, 2, 2, "setBerth", 0, 300, 1);
        Check.sentence("Promise 8", "Returns 10 times the previous depth plus the previous number of ramps");
        Run.rich().due(3001, "setBerth", 0, 0, 1).due(1, "setBerth", 0, 0, 2).due(2, "setBerth", 0, 999, 2)
                .due(9992, "setBerth", 0, 999, 1).due(9991, "setBerth", 0, 5, 2).due(5, "berth", 0, 0).due(2, "berth", 0, 1)
                .due(320, "berth", 1, 0);
    }

    private static void setTide() {
        Check.sentence("Promise 9", "`hour`: the hour, 0 to 48");
        Run.rich().range(Check.NO_SUCH, 0, 48, 0, "setTide", 5, 10);
        Run.rich().due(0, "setTide", 0, 7).due(7, "tide", 0).due(0, "setTide", 48, 8).due(8, "tide", 48).due(0, "tide", 47);
        Check.sentence("Promise 9", "`height`: the height, -999 to 999");
        Run.rich().range(Check.BAD, -999, 999, 1, "setTide", 5, 10);
        Check.sentence("Promise 9", "Returns the previous height");
        Run.rich().due(0, "setTide", 5, -999).due(-999, "setTide", 5, 999).due(999, "setTide", 5, 0).due(0, "setTide", 5, 0)
                .due(5, "undo").due(4, "undo").due(999, "tide", 5).due(3, "undo").due(-999, "tide", 5);
        Check.sentence("Promise 9", "NO_SUCH_ELEMENT (checked first)");
        Run.rich().refused(Check.NO_SUCH, "setTide", 49, 1000).refused(Check.NO_SUCH, "setTide", -1, -1000);
        Check.sentence("Promise 9", "BAD_VALUE.");
        Run.rich().refused(Check.BAD, "setTide", 48, 1000).refused(Check.BAD, "setTide", 0, -1000);
    }

    private static void setWind() {
        Check.sentence("Promise 10", "`hour`: the hour, 0 to 47");
        Run.rich().range(Check.NO_SUCH, 0, 47, 0, "setWind", 5, 10);
        Run.rich().due(0, "setWind", 0, 7).due(7, "wind", 0).due(0, "setWind", 47, 8).due(8, "wind", 47).due(0, "wind", 46);
        Check.sentence("Promise 10", "`wind`: the wind, 0 to 99");
        Run.rich().range(Check.BAD, 0, 99, 1, "setWind", 5, 10);
        Check.sentence("Promise 10", "Returns the previous wind");
        Run.rich().due(0, "setWind", 5, 99).due(99, "setWind", 5, 1).due(1, "setWind", 5, 0).due(0, "setWind", 5, 0)
                .due(5, "undo").due(4, "undo").due(1, "wind", 5).due(3, "undo").due(99, "wind", 5);
        Check.sentence("Promise 10", "NO_SUCH_ELEMENT (checked first)");
        Run.rich().refused(Check.NO_SUCH, "setWind", 48, 100).refused(Check.NO_SUCH, "setWind", -1, -1);
        Check.sentence("Promise 10", "BAD_VALUE.");
        Run.rich().refused(Check.BAD, "setWind", 47, 100).refused(Check.BAD, "setWind", 0, -1);
    }

    private static void setMargin() {
        Check.sentence("Promise 11", "`margin`: the margin, 0 to 200");
        Run.rich().range(Check.BAD, 0, 200, 0, "setMargin", 10);
        Check.sentence("Promise 11", "Returns the previous margin");
        new Run().due(50, "setMargin", 0).due(0, "setMargin", 200).due(200, "setMargin", 200).due(200, "count", 6);
        Check.sentence("Promise 11", "BAD_VALUE.");
        Run.rich().refused(Check.BAD, "setMargin", -1).refused(Check.BAD, "setMargin", 201).due(60, "count", 6);
        Check.sentence("Cancellations", "The margin is a number from 0 to 200, at first 50.");
        new Run().due(50, "count", 6).due(50, "setMargin", 200).due(200, "count", 6).due(200, "setMargin", 0).due(0, "count", 6);
    }
}
