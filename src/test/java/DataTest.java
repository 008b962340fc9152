/** Promises 1 to 11 and 16 to 24: what is added, set, removed, counted and told again. */
public final class DataTest {
    private static final int MIN = Integer.MIN_VALUE;
    private static final int MAX = Integer.MAX_VALUE;

    private DataTest() {
    }

    public static void main(String[] args) {
        newObject();
        addShip();
        addBerth();
        addCrossing();
        addVehicle();
        addConnection();
        removeCrossing();
        setBerth();
        setTide();
        setWind();
        setMargin();
        count();
        ship();
        berth();
        tellsData();
        Check.finish();
    }

    private static void newObject() {
        Check.part("Promise 1");
        FerryTimetable x = new FerryTimetable();
        for (int what = 0; what <= 5; what++) {
            Check.due("count(" + what + ")", 0, x.count(what));
        }
        Check.due("count(6)", 50, x.count(6));
        for (int hour = 0; hour <= 48; hour++) {
            Check.due("tide(" + hour + ")", 0, x.tide(hour));
        }
        for (int hour = 0; hour <= 47; hour++) {
            Check.due("wind(" + hour + ")", 0, x.wind(hour));
        }
        Check.due("undo()", Check.NONE, x.undo());
        Check.due("restore()", Check.STATE, x.restore());
        Check.due("faultPosition()", Check.NONE, x.faultPosition());
        Check.due("lying(2, 2)", Check.NONE, x.lying(2, 2));
        Check.due("isOrderly()", 1, x.isOrderly());
        Check.due("loadBits()", Check.NONE, x.loadBits());
        for (int what = 0; what <= 9; what++) {
            Check.due("account(" + what + ")", 0, x.account(what));
        }
        Check.due("sailingIf(0)", 0, x.sailingIf(0));
        FerryTimetable y = new FerryTimetable();
        x.addShip(100, 1, 10, 0);
        x.setTide(0, 7);
        Check.due("count(0) of another object", 0, y.count(0));
        Check.due("tide(0) of another object", 0, y.tide(0));
    }

    private static void addShip() {
        Check.part("Promise 2");
        FerryTimetable x = new FerryTimetable();
        int[][] bad = {{49, 1, 10, 0}, {901, 1, 10, 0}, {50, 0, 10, 0}, {50, 5, 10, 0}, {50, 1, 9, 0},
            {50, 1, 201, 0}, {50, 1, 10, -1}, {50, 1, 10, 100}, {MIN, 1, 10, 0}, {MAX, 1, 10, 0},
            {50, MIN, 10, 0}, {50, MAX, 10, 0}, {50, 1, MIN, 0}, {50, 1, MAX, 0}, {50, 1, 10, MIN}, {50, 1, 10, MAX}};
        for (int[] b : bad) {
            Check.due("addShip with a bad value", Check.BAD, x.addShip(b[0], b[1], b[2], b[3]));
        }
        Check.due("count(0)", 0, x.count(0));
        Check.due("addShip(50, 1, 10, 0)", 0, x.addShip(50, 1, 10, 0));
        Check.due("addShip(900, 4, 200, 99)", 1, x.addShip(900, 4, 200, 99));
        Check.due("addShip(100, 2, 20, 30)", 2, x.addShip(100, 2, 20, 30));
        Check.due("addShip(101, 3, 21, 31)", 3, x.addShip(101, 3, 21, 31));
        Check.due("addShip, the fifth", Check.FULL, x.addShip(50, 1, 10, 0));
        Check.due("addShip, the fifth and bad", Check.BAD, x.addShip(50, 0, 10, 0));
        Check.due("count(0)", 4, x.count(0));
        int[][] want = {{50, 1, 10, 0}, {900, 4, 200, 99}, {100, 2, 20, 30}, {101, 3, 21, 31}};
        for (int s = 0; s < 4; s++) {
            for (int what = 0; what < 4; what++) {
                Check.due("ship(" + s + ", " + what + ")", want[s][what], x.ship(s, what));
            }
        }
    }

    private static void addBerth() {
        Check.part("Promise 3");
        FerryTimetable x = new FerryTimetable();
        int[][] bad = {{-1, 1}, {1000, 1}, {0, 0}, {0, 3}, {MIN, 1}, {MAX, 1}, {0, MIN}, {0, MAX}};
        for (int[] b : bad) {
            Check.due("addBerth with a bad value", Check.BAD, x.addBerth(b[0], b[1]));
        }
        Check.due("addBerth(0, 1)", 0, x.addBerth(0, 1));
        Check.due("addBerth(999, 2)", 1, x.addBerth(999, 2));
        Check.due("addBerth(500, 1)", 2, x.addBerth(500, 1));
        Check.due("addBerth, the fourth", Check.FULL, x.addBerth(500, 1));
        Check.due("addBerth, the fourth and bad", Check.BAD, x.addBerth(500, 3));
        Check.due("count(1)", 3, x.count(1));
        int[][] want = {{0, 1}, {999, 2}, {500, 1}};
        for (int b = 0; b < 3; b++) {
            Check.due("berth(" + b + ", 0)", want[b][0], x.berth(b, 0));
            Check.due("berth(" + b + ", 1)", want[b][1], x.berth(b, 1));
        }
    }

    private static void addCrossing() {
        Check.part("Promise 4");
        FerryTimetable x = new FerryTimetable();
        Check.due("addCrossing without ships", Check.NO_SUCH, x.addCrossing(0, 0, 0, 1));
        x.addShip(100, 1, 20, 50);
        Check.due("addCrossing without berths", Check.NO_SUCH, x.addCrossing(0, 0, -1, 1));
        x.addBerth(300, 1);
        Check.due("addCrossing(-1, 0, -1, 1)", Check.NO_SUCH, x.addCrossing(-1, 0, -1, 1));
        Check.due("addCrossing(1, 0, 0, 1)", Check.NO_SUCH, x.addCrossing(1, 0, 0, 1));
        Check.due("addCrossing(0, 1, 0, 1)", Check.NO_SUCH, x.addCrossing(0, 1, 0, 1));
        Check.due("addCrossing(0, -1, 0, 1)", Check.NO_SUCH, x.addCrossing(0, -1, 0, 1));
        int[][] bad = {{-1, 1}, {0, 0}, {10, 9}, {0, 301}, {2501, 2802}, {2800, 2801}, {2801, 2801}, {MIN, MIN + 1},
            {MAX, MIN}, {MIN, MAX}, {0, MAX}, {0, MIN}, {MAX - 1, MAX}, {-2, 2147483647}};
        for (int[] b : bad) {
            Check.due("addCrossing with times " + b[0] + " and " + b[1], Check.BAD, x.addCrossing(0, 0, b[0], b[1]));
        }
        Check.due("count(2)", 0, x.count(2));
        Check.due("addCrossing(0, 0, 0, 1)", 0, x.addCrossing(0, 0, 0, 1));
        Check.due("addCrossing(0, 0, 2500, 2800)", 1, x.addCrossing(0, 0, 2500, 2800));
        Check.due("addCrossing(0, 0, 2799, 2800)", 2, x.addCrossing(0, 0, 2799, 2800));
        for (int c = 3; c < 12; c++) {
            Check.due("addCrossing, number " + c, c, x.addCrossing(0, 0, 10 * c, 10 * c + 5));
        }
        Check.due("addCrossing, the 13th", Check.FULL, x.addCrossing(0, 0, 0, 1));
        Check.due("addCrossing, the 13th and bad", Check.BAD, x.addCrossing(0, 0, 1, 1));
        Check.due("addCrossing, the 13th, no ship", Check.NO_SUCH, x.addCrossing(1, 0, 1, 1));
        Check.due("count(2)", 12, x.count(2));
        Check.due("crossing(1, 2)", 2500, x.crossing(1, 2));
        Check.due("crossing(1, 3)", 2800, x.crossing(1, 3));
        Check.due("crossing(11, 2)", 110, x.crossing(11, 2));
    }

    private static void addVehicle() {
        Check.part("Promise 5");
        FerryTimetable x = Check.easyPort();
        Check.due("addVehicle(0, 3, 0) without crossings", Check.NO_SUCH, x.addVehicle(0, 2, 0));
        x.addCrossing(0, 0, 0, 60);
        Check.due("addVehicle(-1, 3, 0)", Check.NO_SUCH, x.addVehicle(-1, 3, 0));
        Check.due("addVehicle(1, 3, 9)", Check.NO_SUCH, x.addVehicle(1, 3, 9));
        int[][] bad = {{2, 0}, {31, 0}, {3, -1}, {3, 6}, {MIN, 0}, {MAX, 0}, {3, MIN}, {3, MAX}};
        for (int[] b : bad) {
            Check.due("addVehicle with a bad value", Check.BAD, x.addVehicle(0, b[0], b[1]));
        }
        Check.due("addVehicle(0, 3, 0)", 0, x.addVehicle(0, 3, 0));
        Check.due("addVehicle(0, 30, 5)", 1, x.addVehicle(0, 30, 5));
        for (int v = 2; v < 24; v++) {
            Check.due("addVehicle, number " + v, v, x.addVehicle(0, 3 + v, v % 6));
        }
        Check.due("addVehicle, the 25th", Check.FULL, x.addVehicle(0, 3, 0));
        Check.due("addVehicle, the 25th and bad", Check.BAD, x.addVehicle(0, 2, 0));
        Check.due("addVehicle, the 25th, no crossing", Check.NO_SUCH, x.addVehicle(1, 2, 0));
        Check.due("count(3)", 24, x.count(3));
        Check.due("vehicle(1, 1)", 30, x.vehicle(1, 1));
        Check.due("vehicle(1, 2)", 5, x.vehicle(1, 2));
        Check.due("vehicle(23, 1)", 26, x.vehicle(23, 1));
    }

    private static void addConnection() {
        Check.part("Promise 6");
        FerryTimetable x = Check.easyPort();
        Check.due("addConnection without crossings", Check.NO_SUCH, x.addConnection(0, -1, 0, 1));
        x.addCrossing(0, 0, 0, 60);
        Check.due("addConnection(-1, 0, 0, 1)", Check.NO_SUCH, x.addConnection(-1, 0, 0, 1));
        Check.due("addConnection(1, 0, 0, 0)", Check.NO_SUCH, x.addConnection(1, 0, 0, 0));
        int[][] bad = {{-1, 0, 1}, {2801, 0, 1}, {0, -1, 1}, {0, 61, 1}, {0, 0, 0}, {0, 0, 1000}, {MIN, 0, 1},
            {MAX, 0, 1}, {0, MIN, 1}, {0, MAX, 1}, {0, 0, MIN}, {0, 0, MAX}};
        for (int[] b : bad) {
            Check.due("addConnection with a bad value", Check.BAD, x.addConnection(0, b[0], b[1], b[2]));
        }
        Check.due("addConnection(0, 0, 0, 1)", 0, x.addConnection(0, 0, 0, 1));
        Check.due("addConnection(0, 2800, 60, 999)", 1, x.addConnection(0, 2800, 60, 999));
        for (int k = 2; k < 8; k++) {
            Check.due("addConnection, number " + k, k, x.addConnection(0, k, k, k));
        }
        Check.due("addConnection, the ninth", Check.FULL, x.addConnection(0, 0, 0, 1));
        Check.due("addConnection, the ninth and bad", Check.BAD, x.addConnection(0, 0, 0, 0));
        Check.due("addConnection, the ninth, no crossing", Check.NO_SUCH, x.addConnection(1, 0, 0, 0));
        Check.due("count(4)", 8, x.count(4));
        int[] want = {0, 2800, 60, 999};
        for (int what = 0; what < 4; what++) {
            Check.due("connection(1, " + what + ")", want[what], x.connection(1, what));
        }
    }

    private static void removeCrossing() {
        Check.part("Promise 7");
        FerryTimetable x = Check.easyPort();
        Check.due("removeCrossing(0) of none", Check.NO_SUCH, x.removeCrossing(0));
        for (int c = 0; c < 4; c++) {
            x.addCrossing(0, 0, 100 * c, 100 * c + 50);
        }
        for (int i = 0; i < 8; i++) {
            x.addVehicle(new int[] {3, 1, 1, 0, 2, 1, 3, 0}[i], 3 + i, 0);
            x.addConnection(new int[] {1, 2, 0, 3, 1, 1, 2, 0}[i], 0, 0, 1 + i);
        }
        Check.due("removeCrossing(-1)", Check.NO_SUCH, x.removeCrossing(-1));
        Check.due("removeCrossing(4)", Check.NO_SUCH, x.removeCrossing(4));
        Check.due("removeCrossing(1)", 3, x.removeCrossing(1));
        Check.due("count(2)", 3, x.count(2));
        int[] arrivals = {0, 200, 300};
        for (int c = 0; c < 3; c++) {
            Check.due("crossing(" + c + ", 2)", arrivals[c], x.crossing(c, 2));
            Check.due("crossing(" + c + ", 3)", arrivals[c] + 50, x.crossing(c, 3));
        }
        int[][] vehicles = {{2, 3}, {0, 6}, {1, 7}, {2, 9}, {0, 10}};
        Check.due("count(3)", 5, x.count(3));
        for (int v = 0; v < 5; v++) {
            Check.due("vehicle(" + v + ", 0)", vehicles[v][0], x.vehicle(v, 0));
            Check.due("vehicle(" + v + ", 1)", vehicles[v][1], x.vehicle(v, 1));
        }
        int[][] connections = {{1, 2}, {0, 3}, {2, 4}, {1, 7}, {0, 8}};
        Check.due("count(4)", 5, x.count(4));
        for (int k = 0; k < 5; k++) {
            Check.due("connection(" + k + ", 0)", connections[k][0], x.connection(k, 0));
            Check.due("connection(" + k + ", 3)", connections[k][1], x.connection(k, 3));
        }
        Check.due("removeCrossing(2)", 2, x.removeCrossing(2));
        Check.due("removeCrossing(0)", 1, x.removeCrossing(0));
        Check.due("removeCrossing(0)", 0, x.removeCrossing(0));
        Check.due("count(3)", 0, x.count(3));
        Check.due("count(4)", 0, x.count(4));
        Check.due("addCrossing after all were removed", 0, x.addCrossing(0, 0, 5, 6));
        Check.due("ships stay", 1, x.count(0));
        Check.due("berths stay", 1, x.count(1));
    }

    private static void setBerth() {
        Check.part("Promise 8");
        FerryTimetable x = new FerryTimetable();
        Check.due("setBerth(0, 300, 1) of none", Check.NO_SUCH, x.setBerth(0, -1, 1));
        x.addBerth(300, 1);
        x.addBerth(0, 2);
        Check.due("setBerth(2, 300, 0)", Check.NO_SUCH, x.setBerth(2, 300, 0));
        Check.due("setBerth(-1, 300, 1)", Check.NO_SUCH, x.setBerth(-1, 300, 1));
        int[][] bad = {{-1, 1}, {1000, 1}, {0, 0}, {0, 3}, {MIN, 1}, {MAX, 2}, {0, MIN}, {0, MAX}};
        for (int[] b : bad) {
            Check.due("setBerth with a bad value", Check.BAD, x.setBerth(0, b[0], b[1]));
        }
        Check.due("setBerth(0, 999, 2)", 3001, x.setBerth(0, 999, 2));
        Check.due("setBerth(1, 5, 1)", 2, x.setBerth(1, 5, 1));
        Check.due("setBerth(0, 0, 1)", 9992, x.setBerth(0, 0, 1));
        Check.due("berth(0, 0)", 0, x.berth(0, 0));
        Check.due("berth(0, 1)", 1, x.berth(0, 1));
        Check.due("berth(1, 0)", 5, x.berth(1, 0));
        Check.due("berth(1, 1)", 1, x.berth(1, 1));
    }

    private static void setTide() {
        Check.part("Promises 9 and 23");
        FerryTimetable x = new FerryTimetable();
        Check.due("setTide(-1, 0)", Check.NO_SUCH, x.setTide(-1, 0));
        Check.due("setTide(49, 1000)", Check.NO_SUCH, x.setTide(49, 1000));
        Check.due("setTide(0, -1000)", Check.BAD, x.setTide(0, -1000));
        Check.due("setTide(48, 1000)", Check.BAD, x.setTide(48, 1000));
        Check.due("setTide(0, -999)", 0, x.setTide(0, -999));
        Check.due("setTide(0, 999)", -999, x.setTide(0, 999));
        Check.due("setTide(0, 0)", 999, x.setTide(0, 0));
        Check.due("setTide(48, -7)", 0, x.setTide(48, -7));
        Check.due("tide(48)", -7, x.tide(48));
        Check.due("tide(47)", 0, x.tide(47));
        Check.due("tide(49)", Check.NO_SUCH, x.tide(49));
        Check.due("tide(-1)", Check.NO_SUCH, x.tide(-1));
        Check.due("tide(MIN)", Check.NO_SUCH, x.tide(MIN));
        Check.due("tide(MAX)", Check.NO_SUCH, x.tide(MAX));
    }

    private static void setWind() {
        Check.part("Promises 10 and 24");
        FerryTimetable x = new FerryTimetable();
        Check.due("setWind(-1, 0)", Check.NO_SUCH, x.setWind(-1, 0));
        Check.due("setWind(48, 100)", Check.NO_SUCH, x.setWind(48, 100));
        Check.due("setWind(0, -1)", Check.BAD, x.setWind(0, -1));
        Check.due("setWind(47, 100)", Check.BAD, x.setWind(47, 100));
        Check.due("setWind(0, 99)", 0, x.setWind(0, 99));
        Check.due("setWind(0, 0)", 99, x.setWind(0, 0));
        Check.due("setWind(47, 7)", 0, x.setWind(47, 7));
        Check.due("wind(47)", 7, x.wind(47));
        Check.due("wind(46)", 0, x.wind(46));
        Check.due("wind(48)", Check.NO_SUCH, x.wind(48));
        Check.due("wind(-1)", Check.NO_SUCH, x.wind(-1));
        Check.due("wind(MIN)", Check.NO_SUCH, x.wind(MIN));
        Check.due("wind(MAX)", Check.NO_SUCH, x.wind(MAX));
    }

    private static void setMargin() {
        Check.part("Promise 11");
        FerryTimetable x = new FerryTimetable();
        Check.due("setMargin(-1)", Check.BAD, x.setMargin(-1));
        Check.due("setMargin(201)", Check.BAD, x.setMargin(201));
        Check.due("setMargin(MIN)", Check.BAD, x.setMargin(MIN));
        Check.due("setMargin(MAX)", Check.BAD, x.setMargin(MAX));
        Check.due("setMargin(0)", 50, x.setMargin(0));
        Check.due("setMargin(200)", 0, x.setMargin(200));
        Check.due("setMargin(7)", 200, x.setMargin(7));
        Check.due("count(6)", 7, x.count(6));
    }

    private static void count() {
        Check.part("Promise 16");
        FerryTimetable x = Check.easyPort();
        x.addShip(100, 1, 20, 50);
        x.addBerth(1, 1);
        x.addBerth(2, 1);
        for (int i = 0; i < 4; i++) {
            x.addCrossing(0, 0, 0, 1);
        }
        for (int i = 0; i < 5; i++) {
            x.addVehicle(0, 3, 0);
        }
        for (int i = 0; i < 6; i++) {
            x.addConnection(0, 0, 0, 1);
        }
        x.append(Check.packed("abcd"));
        x.append(Check.packed("abc"));
        x.setMargin(8);
        for (int what = 0; what <= 6; what++) {
            Check.due("count(" + what + ")", what + 2, x.count(what));
        }
        Check.due("count(-1)", Check.BAD, x.count(-1));
        Check.due("count(7)", Check.BAD, x.count(7));
        Check.due("count(MIN)", Check.BAD, x.count(MIN));
        Check.due("count(MAX)", Check.BAD, x.count(MAX));
    }

    private static void ship() {
        Check.part("Promise 17");
        FerryTimetable x = Check.easyPort();
        x.addShip(120, 3, 40, 60);
        Check.due("ship(2, 9)", Check.NO_SUCH, x.ship(2, 9));
        Check.due("ship(-1, 0)", Check.NO_SUCH, x.ship(-1, 0));
        Check.due("ship(0, -1)", Check.BAD, x.ship(0, -1));
        Check.due("ship(0, 5)", Check.BAD, x.ship(0, 5));
        Check.due("ship(0, MAX)", Check.BAD, x.ship(0, MAX));
        int[] want = {120, 3, 40, 60};
        for (int what = 0; what < 4; what++) {
            Check.due("ship(1, " + what + ")", want[what], x.ship(1, what));
        }
        Check.due("ship(0, 4)", 0, x.ship(0, 4));
        x.addCrossing(0, 0, 0, 10);
        x.addCrossing(1, 0, 20, 30);
        x.addCrossing(1, 0, 40, 50);
        x.addCrossing(1, 0, 45, 55);
        x.addCrossing(0, 0, 60, 70);
        Check.due("ship(0, 4)", 2, x.ship(0, 4));
        Check.due("ship(1, 4), one of three is cancelled", 2, x.ship(1, 4));
    }

    private static void berth() {
        Check.part("Promise 18");
        FerryTimetable x = Check.easyPort();
        x.addBerth(310, 2);
        Check.due("berth(2, 9)", Check.NO_SUCH, x.berth(2, 9));
        Check.due("berth(-1, 0)", Check.NO_SUCH, x.berth(-1, 0));
        Check.due("berth(0, -1)", Check.BAD, x.berth(0, -1));
        Check.due("berth(0, 3)", Check.BAD, x.berth(0, 3));
        Check.due("berth(1, 0)", 310, x.berth(1, 0));
        Check.due("berth(1, 1)", 2, x.berth(1, 1));
        x.addShip(100, 1, 20, 50);
        x.addCrossing(0, 0, 0, 10);
        x.addCrossing(0, 1, 20, 30);
        x.addCrossing(0, 1, 40, 50);
        x.addCrossing(1, 1, 45, 55);
        Check.due("berth(0, 2)", 1, x.berth(0, 2));
        Check.due("berth(1, 2), one of three is cancelled", 2, x.berth(1, 2));
    }

    private static void tellsData() {
        Check.part("Promises 19, 21 and 22");
        FerryTimetable x = Check.easyPort();
        x.addShip(100, 1, 20, 50);
        x.addBerth(300, 1);
        x.addCrossing(1, 0, 10, 20);
        x.addCrossing(0, 1, 30, 40);
        x.addVehicle(1, 4, 3);
        x.addConnection(1, 25, 6, 7);
        int[][] crossings = {{1, 0, 10, 20}, {0, 1, 30, 40}};
        for (int c = 0; c < 2; c++) {
            for (int what = 0; what < 4; what++) {
                Check.due("crossing(" + c + ", " + what + ")", crossings[c][what], x.crossing(c, what));
            }
        }
        int[] vehicle = {1, 4, 3};
        for (int what = 0; what < 3; what++) {
            Check.due("vehicle(0, " + what + ")", vehicle[what], x.vehicle(0, what));
        }
        int[] connection = {1, 25, 6, 7};
        for (int what = 0; what < 4; what++) {
            Check.due("connection(0, " + what + ")", connection[what], x.connection(0, what));
        }
        Check.due("crossing(2, 99)", Check.NO_SUCH, x.crossing(2, 99));
        Check.due("crossing(-1, 0)", Check.NO_SUCH, x.crossing(-1, 0));
        Check.due("crossing(0, -1)", Check.BAD, x.crossing(0, -1));
        Check.due("crossing(0, 10)", Check.BAD, x.crossing(0, 10));
        Check.due("vehicle(1, 99)", Check.NO_SUCH, x.vehicle(1, 99));
        Check.due("vehicle(-1, 0)", Check.NO_SUCH, x.vehicle(-1, 0));
        Check.due("vehicle(0, -1)", Check.BAD, x.vehicle(0, -1));
        Check.due("vehicle(0, 7)", Check.BAD, x.vehicle(0, 7));
        Check.due("connection(1, 99)", Check.NO_SUCH, x.connection(1, 99));
        Check.due("connection(-1, 0)", Check.NO_SUCH, x.connection(-1, 0));
        Check.due("connection(0, -1)", Check.BAD, x.connection(0, -1));
        Check.due("connection(0, 5)", Check.BAD, x.connection(0, 5));
    }
}
