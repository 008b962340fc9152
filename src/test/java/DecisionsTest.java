/** Promises 17 to 20, 22, 33 and 35, as far as they follow from what sails and what waits. */
public final class DecisionsTest {
    private DecisionsTest() {
    }

    private static FerryTimetable x;

    public static void main(String[] args) {
        order();
        wind();
        water();
        berthInTheWay();
        shipInTheWay();
        firstReasonCounts();
        connections();
        connectionsInBadWeather();
        delayedEnd();
        accounts();
        sailingIf();
        Check.finish();
    }

    private static void reason(int crossing, int reason, int detail) {
        Check.due("crossing(" + crossing + ", 5)", reason, x.crossing(crossing, 5));
        Check.due("crossing(" + crossing + ", 6)", detail, x.crossing(crossing, 6));
    }

    private static void order() {
        Check.part("Promises 19 and 20, the order");
        x = Check.easyPort();
        Check.due("decided(0) of none", Check.NO_SUCH, x.decided(0));
        int[][] times = {{50, 300}, {10, 100}, {0, 300}, {99, 100}, {290, 299}};
        for (int[] t : times) {
            x.addCrossing(0, 0, t[0], t[1]);
        }
        int[] order = {1, 3, 4, 0, 2};
        for (int p = 0; p < 5; p++) {
            Check.due("decided(" + p + ")", order[p], x.decided(p));
            Check.due("crossing(" + order[p] + ", 7)", p, x.crossing(order[p], 7));
        }
        Check.due("decided(5)", Check.NO_SUCH, x.decided(5));
        Check.due("decided(-1)", Check.NO_SUCH, x.decided(-1));
        Check.due("decided(MAX)", Check.NO_SUCH, x.decided(Integer.MAX_VALUE));
        x.removeCrossing(1);
        int[] then = {2, 3, 0, 1};
        for (int p = 0; p < 4; p++) {
            Check.due("decided(" + p + ")", then[p], x.decided(p));
        }
    }

    private static void wind() {
        Check.part("Promise 19, reason 1");
        x = Check.easyPort();
        x.addCrossing(0, 0, 100, 179);
        x.addCrossing(0, 0, 179, 180);
        x.addCrossing(0, 0, 180, 239);
        x.addCrossing(0, 0, 239, 240);
        x.setWind(3, 50);
        for (int c = 0; c < 4; c++) {
            reason(c, 0, Check.NONE);
        }
        x.setWind(3, 51);
        reason(0, 0, Check.NONE);
        reason(1, 1, 51);
        reason(2, 1, 51);
        reason(3, 0, Check.NONE);
        x.setWind(2, 99);
        x.setWind(3, 0);
        reason(0, 1, 99);
        reason(1, 0, Check.NONE);
        x.addShip(100, 1, 10, 99);
        x.addCrossing(1, 0, 50, 120);
        reason(4, 0, Check.NONE);
        Check.due("ship(0, 4)", 3, x.ship(0, 4));
        Check.due("ship(1, 4)", 1, x.ship(1, 4));
        Check.due("berth(0, 2)", 4, x.berth(0, 2));
    }

    private static void water() {
        Check.part("Promise 19, reason 2");
        x = new FerryTimetable();
        x.addShip(250, 1, 10, 50);
        x.addBerth(300, 1);
        x.addCrossing(0, 0, 130, 230);
        reason(0, 0, Check.NONE);
        x.setMargin(51);
        reason(0, 2, 130);
        x.setMargin(50);
        x.setTide(3, -1);
        reason(0, 2, 180);
        x.setTide(3, 0);
        x.setTide(4, -60);
        reason(0, 2, 230);
        x.setTide(4, -1);
        // -0.83 is 0 without its fraction
        reason(0, 0, Check.NONE);
        x.setTide(2, -60);
        reason(0, 2, 130);
        x.setTide(2, 0);
        x.setTide(4, 0);
        // the hour 1 and the hour 5 are not between arrival and departure
        x.setTide(1, -999);
        x.setTide(5, -999);
        reason(0, 0, Check.NONE);
        x.addCrossing(0, 0, 180, 240);
        reason(1, 3, 0);
        x.removeCrossing(0);
        reason(0, 0, Check.NONE);
        x.setTide(4, -1);
        reason(0, 2, 240);
        x.setTide(3, -1);
        reason(0, 2, 180);
        longStay();
        hourBeforeArrival();
    }

    private static void hourBeforeArrival() {
        x = new FerryTimetable();
        x.addShip(250, 1, 10, 50);
        x.addBerth(300, 1);
        x.addCrossing(0, 0, 121, 179);
        x.setTide(2, -1);
        x.setTide(3, -1);
        reason(0, 2, 121);
        x.setTide(3, 0);
        reason(0, 0, Check.NONE);
        x.setTide(2, 0);
        x.setTide(3, -1);
        reason(0, 0, Check.NONE);
    }

    private static void longStay() {
        x = new FerryTimetable();
        x.addShip(250, 1, 10, 50);
        x.addBerth(300, 1);
        x.addCrossing(0, 0, 59, 359);
        for (int hour = 5; hour >= 1; hour--) {
            x.setTide(hour, -1);
            reason(0, 2, 60 * hour);
        }
        x.setTide(0, -100);
        // 59 minutes from -100 to -1 leave -2
        reason(0, 2, 59);
        x.setTide(0, 0);
        reason(0, 2, 60);
    }

    private static void berthInTheWay() {
        Check.part("Promise 19, reason 3");
        x = Check.easyPort();
        x.addShip(100, 1, 10, 50);
        x.addBerth(300, 1);
        x.addCrossing(0, 0, 100, 200);
        x.addCrossing(1, 0, 199, 210);
        reason(1, 3, 0);
        x.addCrossing(1, 0, 200, 211);
        reason(2, 0, Check.NONE);
        x.addCrossing(1, 1, 150, 190);
        reason(3, 0, Check.NONE);
        x.addCrossing(1, 0, 90, 100);
        reason(0, 0, Check.NONE);
        reason(4, 0, Check.NONE);
        x.addCrossing(1, 0, 100, 101);
        // decided first, it keeps out crossing 0, and so crossing 1 sails and keeps out crossing 2
        reason(5, 0, Check.NONE);
        reason(0, 3, 5);
        reason(1, 0, Check.NONE);
        reason(2, 3, 1);
    }

    private static void shipInTheWay() {
        Check.part("Promise 19, reason 4");
        x = Check.easyPort();
        x.addBerth(300, 1);
        x.addBerth(300, 1);
        x.addCrossing(0, 0, 100, 200);
        x.addCrossing(0, 1, 199, 210);
        reason(1, 4, 0);
        x.addCrossing(0, 1, 200, 211);
        reason(2, 0, Check.NONE);
        x.addCrossing(0, 2, 150, 250);
        reason(3, 4, 0);
        x.addCrossing(0, 2, 205, 251);
        reason(4, 4, 2);
        x.addCrossing(0, 1, 150, 252);
        // crossing 2 is at the same berth, crossing 0 has the same ship: the berth comes first
        reason(5, 3, 2);
    }

    private static void firstReasonCounts() {
        Check.part("Promise 19, the first reason");
        x = new FerryTimetable();
        x.addShip(100, 1, 10, 50);
        x.addBerth(300, 1);
        x.addCrossing(0, 0, 100, 150);
        x.addCrossing(0, 0, 110, 160);
        x.addCrossing(0, 0, 120, 170);
        reason(1, 3, 0);
        x.setWind(2, 51);
        reason(0, 1, 51);
        x.setMargin(200);
        x.setTide(2, -300);
        reason(0, 1, 51);
        x.setWind(2, 0);
        reason(0, 2, 100);
        reason(1, 2, 110);
        x.setTide(2, 0);
        // several are in the way: the one that was decided first
        x.addCrossing(0, 0, 10, 20);
        x.addCrossing(0, 0, 30, 40);
        x.addCrossing(0, 0, 5, 60);
        reason(3, 0, Check.NONE);
        reason(4, 0, Check.NONE);
        reason(5, 3, 3);
        x.setWind(0, 51);
        reason(5, 0, Check.NONE);
    }

    private static void connection(int connection, int fate) {
        Check.due("connection(" + connection + ", 4)", fate, x.connection(connection, 4));
    }

    private static void connections() {
        Check.part("Promise 22");
        x = Check.easyPort();
        x.addCrossing(0, 0, 100, 170);
        int[][] rows = {{160, 0, 0}, {161, 0, 2}, {161, 1, 1}, {175, 14, 2}, {175, 15, 1}, {220, 60, 1}, {221, 60, 2}, {0, 60, 0}};
        for (int[] row : rows) {
            x.addConnection(0, row[0], row[1], 5);
        }
        for (int k = 0; k < rows.length; k++) {
            connection(k, rows[k][2]);
        }
        Check.due("crossing(0, 4)", 60, x.crossing(0, 4));
        x.setWind(2, 51);
        for (int k = 0; k < rows.length; k++) {
            connection(k, 2);
        }
        Check.due("crossing(0, 4) of a cancelled one", 0, x.crossing(0, 4));
        x.undo();
        x.removeCrossing(0);
        x.addCrossing(0, 0, 100, 170);
        x.addConnection(0, 175, 15, 5);
        Check.due("crossing(0, 4)", 15, x.crossing(0, 4));
        x.addConnection(0, 165, 60, 5);
        Check.due("crossing(0, 4), the greatest counts", 15, x.crossing(0, 4));
    }

    private static void connectionsInBadWeather() {
        Check.part("Promise 22, the weather at the ready time");
        x = new FerryTimetable();
        x.addShip(250, 1, 10, 50);
        x.addBerth(300, 1);
        x.addCrossing(0, 0, 100, 170);
        x.addConnection(0, 165, 60, 1);
        x.addConnection(0, 170, 60, 1);
        x.addConnection(0, 180, 60, 1);
        x.setWind(3, 50);
        connection(1, 1);
        x.setWind(3, 51);
        connection(0, 1);
        connection(1, 2);
        connection(2, 2);
        Check.due("crossing(0, 4)", 5, x.crossing(0, 4));
        x.undo();
        Check.due("crossing(0, 4)", 20, x.crossing(0, 4));
        // the height is 0 at 175 and 180, and -10 at 190
        x.setTide(3, 0);
        x.setTide(4, -60);
        connection(0, 1);
        connection(1, 1);
        connection(2, 2);
        Check.due("crossing(0, 4)", 10, x.crossing(0, 4));
        x.setMargin(40);
        connection(2, 1);
        x.setMargin(41);
        connection(2, 2);
        Check.due("crossing(0, 4)", 10, x.crossing(0, 4));
        // another ship at the same berth, with less draft and a lower wind limit
        x.addShip(100, 1, 10, 20);
        x.addCrossing(1, 0, 210, 220);
        x.addConnection(1, 220, 60, 1);
        x.setWind(3, 20);
        connection(3, 1);
        x.setWind(3, 21);
        connection(3, 2);
        x.setWind(3, 20);
        connection(3, 1);
        x.setBerth(0, 141, 1);
        connection(3, 2);
    }

    private static void delayedEnd() {
        Check.part("Promise 19, delays in the way");
        x = Check.easyPort();
        x.addShip(100, 1, 10, 50);
        x.addBerth(300, 1);
        x.addCrossing(0, 0, 0, 60);
        x.addCrossing(1, 0, 70, 90);
        x.addCrossing(0, 1, 75, 100);
        x.addConnection(0, 60, 20, 1);
        reason(1, 0, Check.NONE);
        reason(2, 0, Check.NONE);
        x.addConnection(0, 61, 20, 1);
        Check.due("crossing(0, 4)", 11, x.crossing(0, 4));
        reason(1, 3, 0);
        reason(2, 0, Check.NONE);
        x.addConnection(0, 66, 20, 1);
        reason(2, 4, 0);
        // the stay of the later one is without its own delay, also if it would end in the stay of another
        x.removeCrossing(0);
        x.addConnection(0, 90, 60, 1);
        x.addConnection(1, 140, 60, 1);
        Check.due("crossing(0, 4)", 10, x.crossing(0, 4));
        Check.due("crossing(1, 4)", 50, x.crossing(1, 4));
        // decided before: its delay does not change the order
        x.addCrossing(0, 0, 10, 95);
        Check.due("crossing(2, 7)", 1, x.crossing(2, 7));
        reason(2, 3, 0);
    }

    private static void account(int what, int due) {
        Check.due("account(" + what + ")", due, x.account(what));
    }

    private static void accounts() {
        Check.part("Promise 33");
        x = new FerryTimetable();
        x.addShip(100, 2, 20, 50);
        x.addShip(200, 3, 30, 40);
        x.addBerth(300, 1);
        x.addCrossing(0, 0, 0, 60);
        x.addCrossing(1, 0, 100, 160);
        x.addCrossing(1, 0, 150, 200);
        x.addConnection(0, 50, 0, 1);
        x.addConnection(0, 55, 5, 2);
        x.addConnection(0, 55, 4, 4);
        x.addConnection(1, 157, 30, 8);
        x.addConnection(2, 0, 0, 16);
        x.addVehicle(0, 20, 0);
        x.addVehicle(0, 19, 0);
        x.addVehicle(0, 5, 0);
        x.addVehicle(2, 6, 0);
        x.addVehicle(1, 30, 0);
        x.addVehicle(1, 30, 0);
        account(0, 2);
        account(1, 1);
        account(2, 11);
        account(3, 20);
        account(4, 5);
        account(5, 1);
        account(6, 12);
        account(7, 104);
        account(8, 130);
        account(9, 1);
        account(-1, Check.BAD);
        account(10, Check.BAD);
        account(Integer.MIN_VALUE, Check.BAD);
        account(Integer.MAX_VALUE, Check.BAD);
        Check.due("loadBits()", Float.floatToIntBits(104.0f / 130.0f), x.loadBits());
    }

    private static void sailingIf() {
        Check.part("Promise 35");
        x = new FerryTimetable();
        x.addShip(250, 1, 10, 50);
        x.addShip(200, 1, 10, 50);
        x.addBerth(300, 1);
        x.addCrossing(0, 0, 100, 200);
        x.addCrossing(1, 0, 150, 210);
        x.addCrossing(0, 0, 201, 260);
        Check.due("sailingIf(-1)", Check.BAD, x.sailingIf(-1));
        Check.due("sailingIf(201)", Check.BAD, x.sailingIf(201));
        Check.due("sailingIf(0)", 2, x.sailingIf(0));
        Check.due("sailingIf(50)", 2, x.sailingIf(50));
        Check.due("sailingIf(51)", 1, x.sailingIf(51));
        Check.due("sailingIf(100)", 1, x.sailingIf(100));
        Check.due("sailingIf(101)", 0, x.sailingIf(101));
        Check.due("sailingIf(200)", 0, x.sailingIf(200));
        Check.due("the margin stays", 50, x.count(6));
        reason(1, 3, 0);
        delaysAreFoundAnew();
    }

    private static void delaysAreFoundAnew() {
        x = new FerryTimetable();
        x.addShip(250, 1, 10, 50);
        x.addShip(100, 1, 10, 50);
        x.addBerth(300, 1);
        x.addCrossing(0, 0, 100, 200);
        x.addCrossing(1, 0, 201, 260);
        x.addConnection(0, 192, 60, 1);
        x.setTide(1, 20);
        x.setTide(2, 20);
        x.setTide(3, 10);
        x.setTide(4, -20);
        // the water is 300 at 200 and 299 at the ready time 202
        Check.due("sailingIf(51)", 1, x.sailingIf(51));
        Check.due("sailingIf(50), crossing 0 does not wait", 2, x.sailingIf(50));
        Check.due("sailingIf(49), crossing 0 waits and keeps out crossing 1", 1, x.sailingIf(49));
        Check.due("crossing(0, 4)", 0, x.crossing(0, 4));
    }
}
