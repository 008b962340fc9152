/** The boundary cases of the numbers that promises 16 to 24, 33 and 35 are asked with. */
public final class EdgesOfTellingTest {
    private static final int MIN = Integer.MIN_VALUE;
    private static final int MAX = Integer.MAX_VALUE;

    private EdgesOfTellingTest() {
    }

    public static void main(String[] args) {
        count();
        countsOfEmptyAndFull();
        ship();
        berth();
        crossing();
        decided();
        vehicle();
        connection();
        tide();
        wind();
        account();
        accountsOfEmptyAndFull();
        sailingIf();
        Check.finish();
    }

    /** The answers to what = 0, 1, 2 and so on. */
    private static void tells(String name, int number, int... answers) {
        Run run = Run.rich();
        for (int what = 0; what < answers.length; what++) {
            run.due(answers[what], name, number, what);
        }
    }

    private static void count() {
        Check.sentence("Promise 16", "`what`: 0 for the ships, 1 for the berths, 2 for the crossings, 3 for the vehicles, "
                + "4 for the connections, 5 for the characters in the text, 6 for the margin");
        int[] due = {2, 2, 4, 7, 3, 4, 60};
        for (int what = 0; what <= 6; what++) {
            Run.rich().due(due[what], "count", what);
        }
        Check.sentence("Promise 16", "BAD_VALUE.");
        Run.rich().refusedWith(Check.BAD, Run.beyond(0, 6), 0, "count", 0);
        new Run().refusedWith(Check.BAD, Run.beyond(0, 6), 0, "count", 0);
    }

    private static void countsOfEmptyAndFull() {
        Check.sentence("Promise 16", "Returns the count");
        int[] none = {0, 0, 0, 0, 0, 0, 50};
        int[] most = {4, 3, 12, 24, 8, 60, 200};
        Run full = Run.full().text("x".repeat(56)).call("setMargin", 200);
        for (int what = 0; what <= 6; what++) {
            new Run().due(none[what], "count", what);
            full.due(most[what], "count", what);
        }
        new Run().call("setMargin", 0).due(0, "count", 6);
    }

    private static void ship() {
        Check.sentence("Promise 17", "`what`: 0 for the draft, 1 for the number of lanes, 2 for the lane length, 3 for the wind limit, "
                + "4 for the number of its crossings that sail");
        tells("ship", 0, 100, 2, 20, 50, 2);
        tells("ship", 1, 150, 1, 40, 60, 1);
        Run.easy().due(0, "ship", 0, 4);
        Check.sentence("Promise 17", "NO_SUCH_ELEMENT (checked first)");
        int[] none = {-1, 2, 3, MIN, MAX};
        Run.rich().refusedWith(Check.NO_SUCH, none, 0, "ship", 0, 0).refusedWith(Check.NO_SUCH, none, 0, "ship", 0, 5);
        Run.full().refused(Check.NO_SUCH, "ship", 4, 0).due(103, "ship", 3, 0).due(3, "ship", 3, 4);
        Check.sentence("Promise 17", "BAD_VALUE.");
        Run.rich().refusedWith(Check.BAD, Run.beyond(0, 4), 1, "ship", 1, 0);
    }

    private static void berth() {
        Check.sentence("Promise 18", "`what`: 0 for the depth, 1 for the number of ramps, 2 for the number of crossings there that sail");
        tells("berth", 0, 300, 1, 1);
        tells("berth", 1, 320, 2, 2);
        Run.easy().due(0, "berth", 0, 2);
        Check.sentence("Promise 18", "NO_SUCH_ELEMENT (checked first)");
        int[] none = {-1, 2, 3, MIN, MAX};
        Run.rich().refusedWith(Check.NO_SUCH, none, 0, "berth", 0, 0).refusedWith(Check.NO_SUCH, none, 0, "berth", 0, 3);
        Run.full().refused(Check.NO_SUCH, "berth", 3, 0).due(302, "berth", 2, 0).due(4, "berth", 2, 2);
        Check.sentence("Promise 18", "BAD_VALUE.");
        Run.rich().refusedWith(Check.BAD, Run.beyond(0, 2), 1, "berth", 1, 0);
    }

    private static void crossing() {
        Check.sentence("Promise 19", "`what`: 0 for the ship, 1 for the berth, 2 for the arrival, 3 for the departure, 4 for the delay, "
                + "5 for the reason, 6 for the detail of the reason, NONE for reason 0, 7 for its position in the order in which "
                + "crossings are decided, 8 for the number of vehicles aboard, 9 for the number of vehicles that wait at it, "
                + "those included that are then loaded or shifted");
        tells("crossing", 0, 0, 0, 30, 60, 0, 0, Check.NONE, 0, 2, 3);
        tells("crossing", 1, 1, 1, 70, 130, 0, 0, Check.NONE, 2, 2, 3);
        tells("crossing", 2, 0, 0, 40, 90, 0, 3, 0, 1, 0, 1);
        tells("crossing", 3, 0, 1, 150, 200, 5, 0, Check.NONE, 3, 2, 3);
        Check.sentence("Promise 19", "NO_SUCH_ELEMENT (checked first)");
        int[] none = {-1, 4, 5, MIN, MAX};
        Run.rich().refusedWith(Check.NO_SUCH, none, 0, "crossing", 0, 0).refusedWith(Check.NO_SUCH, none, 0, "crossing", 0, 10);
        // the vehicles 18 to 22 are too long for every ship and come to the last crossing at last
        Run.full().refused(Check.NO_SUCH, "crossing", 12, 9).due(1100, "crossing", 11, 2).due(11, "crossing", 11, 7)
                .due(7, "crossing", 11, 9);
        Check.sentence("Promise 19", "BAD_VALUE.");
        Run.rich().refusedWith(Check.BAD, Run.beyond(0, 9), 1, "crossing", 3, 0);
    }

    private static void decided() {
        Check.sentence("Promise 20", "`position`: the position, from 0");
        Run.rich().due(0, "decided", 0).due(2, "decided", 1).due(1, "decided", 2).due(3, "decided", 3);
        Check.sentence("Promise 20", "NO_SUCH_ELEMENT.");
        Run.rich().refusedWith(Check.NO_SUCH, new int[] {-1, 4, 5, 12, MIN, MAX}, 0, "decided", 0);
        Run.full().due(11, "decided", 11).refused(Check.NO_SUCH, "decided", 12);
        Run.easy().refused(Check.NO_SUCH, "decided", 0).call("addCrossing", 0, 0, 0, 9).due(0, "decided", 0)
                .refused(Check.NO_SUCH, "decided", 1).due(0, "removeCrossing", 0).refused(Check.NO_SUCH, "decided", 0);
    }

    private static void vehicle() {
        Check.sentence("Promise 21", "`what`: 0 for the wanted crossing, 1 for the length, 2 for the port, 3 for the crossing with which "
                + "it sails, 4 for its lane, 5 for its position in the lane, from 0, 6 for the number of times that it is shifted, "
                + "where being left behind does not count; 3, 4 and 5 are NONE if it is left behind");
        tells("vehicle", 0, 0, 12, 2, 0, 0, 0, 0);
        tells("vehicle", 1, 0, 9, 1, 0, 1, 0, 0);
        tells("vehicle", 2, 2, 10, 3, 3, 1, 0, 2);
        tells("vehicle", 3, 1, 30, 0, 1, 0, 0, 0);
        tells("vehicle", 4, 3, 15, 4, 3, 0, 0, 0);
        tells("vehicle", 5, 0, 10, 5, 1, 0, 1, 1);
        tells("vehicle", 6, 3, 25, 4, Check.NONE, Check.NONE, Check.NONE, 0);
        Check.sentence("Promise 21", "NO_SUCH_ELEMENT (checked first)");
        int[] none = {-1, 7, 8, MIN, MAX};
        Run.rich().refusedWith(Check.NO_SUCH, none, 0, "vehicle", 0, 0).refusedWith(Check.NO_SUCH, none, 0, "vehicle", 0, 7);
        Run.full().refused(Check.NO_SUCH, "vehicle", 24, 6).due(26, "vehicle", 23, 1);
        Check.sentence("Promise 21", "BAD_VALUE.");
        Run.rich().refusedWith(Check.BAD, Run.beyond(0, 6), 1, "vehicle", 6, 0);
    }

    private static void connection() {
        Check.sentence("Promise 22", "`what`: 0 for the crossing, 1 for the time, 2 for the patience, 3 for the passengers, "
                + "4 for 0 if it is kept without waiting, 1 if it is kept and the crossing waits for it, 2 if it is missed");
        tells("connection", 0, 0, 45, 10, 40, 0);
        tells("connection", 1, 3, 195, 20, 7, 1);
        tells("connection", 2, 1, 150, 5, 9, 2);
        Check.sentence("Promise 22", "NO_SUCH_ELEMENT (checked first)");
        int[] none = {-1, 3, 4, MIN, MAX};
        Run.rich().refusedWith(Check.NO_SUCH, none, 0, "connection", 0, 0).refusedWith(Check.NO_SUCH, none, 0, "connection", 0, 5);
        Run.full().refused(Check.NO_SUCH, "connection", 8, 4).due(12, "connection", 7, 3);
        Check.sentence("Promise 22", "BAD_VALUE.");
        Run.rich().refusedWith(Check.BAD, Run.beyond(0, 4), 1, "connection", 2, 0);
    }

    private static void tide() {
        Check.sentence("Promise 23", "`hour`: the hour, 0 to 48");
        Run run = Run.rich().call("setTide", 0, -999).call("setTide", 48, 999).due(-999, "tide", 0).due(10, "tide", 1)
                .due(0, "tide", 47).due(999, "tide", 48);
        Check.sentence("Promise 23", "NO_SUCH_ELEMENT.");
        run.refusedWith(Check.NO_SUCH, Run.beyond(0, 48), 0, "tide", 0);
        Check.sentence("Tides", "is given at each full hour from 0 to 48; at first it is 0 everywhere.");
        Run first = new Run();
        for (int hour = 0; hour <= 48; hour++) {
            first.due(0, "tide", hour);
        }
        first.refused(Check.NO_SUCH, "tide", 49).refused(Check.NO_SUCH, "tide", -1);
        Run all = new Run();
        for (int hour = 0; hour <= 48; hour++) {
            all.due(0, "setTide", hour, 20 * hour - 480);
        }
        for (int hour = 0; hour <= 48; hour++) {
            all.due(20 * hour - 480, "tide", hour);
        }
    }

    private static void wind() {
        Check.sentence("Promise 24", "`hour`: the hour, 0 to 47");
        Run run = Run.rich().call("setWind", 0, 99).call("setWind", 47, 98).due(99, "wind", 0).due(5, "wind", 1)
                .due(0, "wind", 46).due(98, "wind", 47);
        Check.sentence("Promise 24", "NO_SUCH_ELEMENT.");
        run.refusedWith(Check.NO_SUCH, Run.beyond(0, 47), 0, "wind", 0);
        Check.sentence("Wind", "The wind is given for each full hour from 0 to 47, from 0 to 99");
        Run all = new Run();
        for (int hour = 0; hour <= 47; hour++) {
            all.due(0, "setWind", hour, 99 - 2 * hour);
        }
        for (int hour = 0; hour <= 47; hour++) {
            all.due(99 - 2 * hour, "wind", hour);
        }
        all.refused(Check.NO_SUCH, "setWind", 48, 0).refused(Check.BAD, "setWind", 47, 100).refused(Check.BAD, "setWind", 0, -1);
        Check.sentence("Wind", "at first it is 0.");
        Run first = new Run();
        for (int hour = 0; hour <= 47; hour++) {
            first.due(0, "wind", hour);
        }
        first.refused(Check.NO_SUCH, "wind", 48).refused(Check.NO_SUCH, "wind", -1);
    }

    private static void account() {
        Check.sentence("Promise 33", "`what`: 0 for the crossings that sail, 1 for those that are cancelled, 2 for the passengers whose "
                + "connections are kept, 3 for those whose connections are missed, 4 for the vehicles aboard, 5 for those left behind, "
                + "6 for the sum of all delays, 7 for the meters of all vehicles aboard, 8 for the meters of all lanes of crossings "
                + "that sail, 9 for the sum of all shifts");
        int[] due = {3, 1, 47, 9, 6, 1, 5, 86, 120, 3};
        for (int what = 0; what <= 9; what++) {
            Run.rich().due(due[what], "account", what);
        }
        Check.sentence("Promise 33", "BAD_VALUE.");
        Run.rich().refusedWith(Check.BAD, Run.beyond(0, 9), 0, "account", 0);
        new Run().refusedWith(Check.BAD, Run.beyond(0, 9), 0, "account", 0);
    }

    private static void accountsOfEmptyAndFull() {
        Check.sentence("Promise 33", "Returns the amount");
        // the greatest amounts that there can be, but for the shifts
        Run run = new Run().call("addShip", 50, 4, 200, 99).call("addBerth", 999, 2);
        for (int i = 0; i < 12; i++) {
            run.call("addCrossing", 0, 0, 200 * i, 200 * i + 100);
        }
        for (int i = 0; i < 24; i++) {
            run.call("addVehicle", i % 12, 30, 5);
        }
        for (int i = 0; i < 8; i++) {
            run.call("addConnection", i, 200 * i + 150, 60, 999);
        }
        int[] due = {12, 0, 7992, 0, 24, 0, 480, 720, 9600, 0};
        for (int what = 0; what <= 9; what++) {
            run.due(due[what], "account", what);
        }
        for (int hour = 0; hour < 48; hour++) {
            run.call("setTide", hour, -999);
        }
        int[] none = {0, 12, 0, 7992, 0, 24, 0, 0, 0, 0};
        for (int what = 0; what <= 9; what++) {
            run.due(none[what], "account", what);
        }
        run.due(Check.NONE, "loadBits");
    }

    private static void sailingIf() {
        Check.sentence("Promise 35", "`margin`: the margin, 0 to 200");
        Run run = new Run().call("addBerth", 300, 1);
        int[] drafts = {100, 101, 299, 300};
        for (int i = 0; i < 4; i++) {
            run.call("addShip", drafts[i], 1, 10, 0).call("addCrossing", i, 0, 10 * i, 10 * i + 10);
        }
        run.due(4, "sailingIf", 0).due(3, "sailingIf", 1).due(2, "sailingIf", 2).due(2, "sailingIf", 199).due(1, "sailingIf", 200);
        run.due(50, "count", 6).due(2, "account", 0);
        Check.sentence("Promise 35", "BAD_VALUE.");
        Run.rich().refusedWith(Check.BAD, Run.beyond(0, 200), 0, "sailingIf", 50);
        new Run().refused(Check.BAD, "sailingIf", 201).due(0, "sailingIf", 200).due(0, "sailingIf", 0);
        sailingIfDecidesAnew();
    }

    private static void sailingIfDecidesAnew() {
        Check.sentence("Promise 35", "all decided anew.");
        // with too great a margin for crossing 0 it is not in the way of the two others
        Run run = new Run().call("addShip", 250, 1, 10, 50).call("addShip", 100, 1, 10, 50).call("addBerth", 300, 1);
        run.call("addCrossing", 0, 0, 0, 60).call("addCrossing", 1, 0, 0, 70).call("addCrossing", 1, 0, 70, 80);
        run.due(2, "sailingIf", 50).due(2, "sailingIf", 51).call("addCrossing", 1, 0, 59, 61);
        run.due(2, "sailingIf", 50).due(2, "sailingIf", 51).due(3, "crossing", 3, 5);
        run.call("removeCrossing", 1).due(2, "sailingIf", 50).due(2, "sailingIf", 51).call("setMargin", 51).due(0, "crossing", 2, 5);
        // delays are found anew, too: the height is 2 at 60, 1 at 61 and 0 at the ready time 120
        Run delay = new Run().call("addShip", 250, 1, 10, 50).call("addShip", 100, 1, 10, 50).call("addBerth", 300, 1).call("setTide", 1, 2);
        delay.call("addCrossing", 0, 0, 60, 61).call("addConnection", 0, 110, 60, 1).call("addCrossing", 1, 0, 119, 130);
        delay.due(1, "sailingIf", 50).due(2, "sailingIf", 51).due(1, "sailingIf", 52).due(1, "account", 0).due(59, "crossing", 0, 4);
    }
}
