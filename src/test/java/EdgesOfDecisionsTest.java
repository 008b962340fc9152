/** The boundary cases of what sails, why it does not, and what waits: promises 19, 20, 22 and the terms behind them. */
public final class EdgesOfDecisionsTest {
    private EdgesOfDecisionsTest() {
    }

    public static void main(String[] args) {
        order();
        windLimit();
        sixtyMinutes();
        waterAtArrival();
        waterAtFullHoursBetween();
        waterAtDeparture();
        enoughWater();
        firstTimeWithTooLittle();
        windComesFirst();
        stays();
        sameShip();
        delayedEnds();
        decidedBeforeAndSails();
        firstInTheWay();
        reasonZero();
        readyTimes();
        patience();
        latestReadyTime();
        windAtTheReadyTime();
        waterAtTheReadyTime();
        greatestReadyTime();
        cancelledConnections();
        otherDelays();
        Check.finish();
    }

    /** Draft 250 and depth 300, so that with the margin 50 a height of 0 is just enough. */
    private static Run justEnough() {
        return new Run().call("addShip", 250, 1, 20, 50).call("addBerth", 300, 1);
    }

    private static Run sails(Run run, int crossing) {
        return run.due(0, "crossing", crossing, 5).due(Check.NONE, "crossing", crossing, 6);
    }

    private static Run cancelled(Run run, int crossing, int reason, int detail) {
        return run.due(reason, "crossing", crossing, 5).due(detail, "crossing", crossing, 6).due(0, "crossing", crossing, 4);
    }

    private static void order() {
        Check.sentence("Cancellations", "Crossings are decided one after the other, in the order of their departures, then of their numbers.");
        Run run = Run.easy().call("addCrossing", 0, 0, 90, 101).call("addCrossing", 0, 0, 0, 100);
        run.call("addCrossing", 0, 0, 99, 100).call("addCrossing", 0, 0, 98, 99).call("addCrossing", 0, 0, 50, 100);
        int[] order = {3, 1, 2, 4, 0};
        for (int position = 0; position < 5; position++) {
            run.due(order[position], "decided", position).due(position, "crossing", order[position], 7);
        }
        // of two with the same departure the lower number is decided first and is in the way of the other one
        Run same = Run.easy().call("addCrossing", 0, 0, 10, 20).call("addCrossing", 0, 0, 0, 20);
        cancelled(sails(same, 0), 1, 3, 0);
        Run minute = Run.easy().call("addCrossing", 0, 0, 10, 20).call("addCrossing", 0, 0, 0, 19);
        cancelled(sails(minute, 1), 0, 3, 1);
        Run twelve = Run.easy();
        for (int i = 0; i < 12; i++) {
            twelve.call("addCrossing", 0, 0, 60, 70);
        }
        for (int i = 0; i < 12; i++) {
            twelve.due(i, "decided", i).due(i, "crossing", i, 7);
        }
    }

    private static void windLimit() {
        Check.sentence("Cancellations", "1, the wind at its departure is greater than the wind limit of its ship");
        for (int limit : new int[] {0, 50, 98}) {
            Run run = new Run().call("addShip", 100, 1, 10, limit).call("addBerth", 300, 1).call("addCrossing", 0, 0, 0, 59);
            sails(run.call("setWind", 0, limit), 0);
            cancelled(run.call("setWind", 0, limit + 1), 0, 1, limit + 1);
            cancelled(run.call("setWind", 0, 99), 0, 1, 99);
        }
        Run run = new Run().call("addShip", 100, 1, 10, 99).call("addBerth", 300, 1).call("addCrossing", 0, 0, 0, 59);
        sails(run.call("setWind", 0, 99), 0);
    }

    private static void sixtyMinutes() {
        Check.sentence("Wind", "counts for the 60 minutes from then on");
        Run run = Run.easy().call("addCrossing", 0, 0, 100, 179).call("addCrossing", 0, 0, 179, 180);
        run.call("addCrossing", 0, 0, 180, 239).call("addCrossing", 0, 0, 239, 240).call("setWind", 3, 51);
        cancelled(cancelled(sails(run, 0), 1, 1, 51), 2, 1, 51);
        sails(run, 3);
        // the first hour and the last one in which a crossing can depart
        Run ends = Run.easy().call("addCrossing", 0, 0, 0, 1).call("addCrossing", 0, 0, 2750, 2759);
        ends.call("addCrossing", 0, 0, 2759, 2760).call("addCrossing", 0, 0, 2760, 2800).call("setWind", 46, 60).call("setWind", 47, 70);
        sails(sails(ends, 0), 1);
        cancelled(cancelled(ends, 2, 1, 60), 3, 1, 60);
        ends.call("setWind", 45, 61).call("setWind", 0, 62);
        cancelled(cancelled(ends, 0, 1, 62), 1, 1, 61);
        // the wind at the arrival does not count
        sails(Run.easy().call("addCrossing", 0, 0, 59, 60).call("setWind", 0, 99), 0);
    }

    private static void waterAtArrival() {
        Check.sentence("Cancellations", "2, at its arrival");
        // the height is too low at 120 alone
        Run run = justEnough().call("setTide", 2, -1);
        cancelled(run.again().call("addCrossing", 0, 0, 120, 170), 0, 2, 120);
        sails(run.again().call("addCrossing", 0, 0, 121, 170), 0);
        cancelled(run.again().call("addCrossing", 0, 0, 119, 170), 0, 2, 120);
        // and here from 120 to 180, but at 121 it is not yet
        Run flat = justEnough().call("setTide", 2, -1).call("setTide", 3, -1);
        cancelled(flat.again().call("addCrossing", 0, 0, 121, 122), 0, 2, 121);
        sails(flat.again().call("addCrossing", 0, 0, 61, 119), 0);
        sails(flat.again().call("addCrossing", 0, 0, 181, 182), 0);
        // at the arrival alone: it rises within the hour
        Run rises = justEnough().call("setTide", 2, -2);
        cancelled(rises.again().call("addCrossing", 0, 0, 150, 170), 0, 2, 150);
        sails(rises.again().call("addCrossing", 0, 0, 151, 170), 0);
        cancelled(justEnough().call("setTide", 0, -1).call("addCrossing", 0, 0, 0, 30), 0, 2, 0);
    }

    private static void waterAtFullHoursBetween() {
        Check.sentence("Cancellations", "at a full hour between arrival and departure");
        Run run = justEnough().call("setTide", 3, -1);
        cancelled(run.again().call("addCrossing", 0, 0, 179, 181), 0, 2, 180);
        sails(run.again().call("addCrossing", 0, 0, 121, 179), 0);
        sails(run.again().call("addCrossing", 0, 0, 181, 239), 0);
        // the longest stay has five full hours between its ends, or four and both of its ends
        for (int hour = 1; hour <= 5; hour++) {
            cancelled(justEnough().call("setTide", hour, -1).call("addCrossing", 0, 0, 30, 330), 0, 2, 60 * hour);
        }
        sails(justEnough().call("setTide", 0, -1).call("setTide", 6, -1).call("addCrossing", 0, 0, 30, 330), 0);
        for (int hour = 1; hour <= 6; hour++) {
            cancelled(justEnough().call("setTide", hour, -1).call("addCrossing", 0, 0, 60, 360), 0, 2, 60 * hour);
        }
        sails(justEnough().call("setTide", 0, -1).call("setTide", 7, -1).call("addCrossing", 0, 0, 60, 360), 0);
    }

    private static void waterAtDeparture() {
        Check.sentence("Cancellations", "or at its departure");
        Run run = justEnough().call("setTide", 3, -1);
        cancelled(run.again().call("addCrossing", 0, 0, 130, 180), 0, 2, 180);
        sails(run.again().call("addCrossing", 0, 0, 130, 179), 0);
        Run falls = justEnough().call("setTide", 3, -2);
        cancelled(falls.again().call("addCrossing", 0, 0, 130, 150), 0, 2, 150);
        sails(falls.again().call("addCrossing", 0, 0, 130, 149), 0);
        // the latest departure is at 2800, between the hours 46 and 47
        cancelled(justEnough().call("setTide", 47, -2).call("addCrossing", 0, 0, 2770, 2800), 0, 2, 2800);
        sails(justEnough().call("setTide", 47, -2).call("addCrossing", 0, 0, 2770, 2789), 0);
        cancelled(justEnough().call("setTide", 47, -2).call("addCrossing", 0, 0, 2770, 2790), 0, 2, 2790);
    }

    private static void enoughWater() {
        Check.sentence("Cancellations", "the water at its berth is less than the draft of its ship plus the margin");
        Run run = justEnough().call("addCrossing", 0, 0, 130, 150);
        sails(run, 0);
        cancelled(run.again().call("setMargin", 51), 0, 2, 130);
        cancelled(run.again().call("setBerth", 0, 299, 1), 0, 2, 130);
        sails(run.again().call("setMargin", 200).call("setBerth", 0, 450, 1), 0);
        cancelled(run.again().call("setMargin", 200).call("setBerth", 0, 449, 1), 0, 2, 130);
        sails(run.again().call("setMargin", 0).call("setBerth", 0, 250, 1), 0);
        cancelled(run.again().call("setMargin", 0).call("setBerth", 0, 249, 1), 0, 2, 130);
        // the deepest berth, the greatest draft and margin
        Run most = new Run().call("addShip", 900, 1, 10, 99).call("addBerth", 999, 1).call("setMargin", 200);
        most.call("addCrossing", 0, 0, 60, 61).call("setTide", 1, 101).call("setTide", 2, 101);
        sails(most, 0);
        cancelled(most.call("setTide", 1, 100), 0, 2, 60);
        Run least = new Run().call("addShip", 50, 1, 10, 99).call("addBerth", 0, 1).call("setMargin", 0);
        least.call("addCrossing", 0, 0, 60, 61).call("setTide", 1, 50).call("setTide", 2, 50);
        sails(least, 0);
        cancelled(least.call("setTide", 1, 49), 0, 2, 60);
        // less than the draft by an own fraction is none: -0.98 is 0
        sails(justEnough().call("setTide", 2, -1).call("addCrossing", 0, 0, 61, 119), 0);
    }

    private static void firstTimeWithTooLittle() {
        Check.sentence("Cancellations", "the first of these times with too little water for 2");
        Run run = justEnough().call("addCrossing", 0, 0, 119, 241).call("setTide", 4, -1);
        cancelled(run, 0, 2, 240);
        cancelled(run.call("setTide", 3, -1), 0, 2, 180);
        cancelled(run.call("setTide", 2, -1), 0, 2, 120);
        // -59.01 at 119
        cancelled(run.call("setTide", 1, -60).call("setTide", 2, -59), 0, 2, 119);
        // at the departure alone, and at the arrival and the departure
        Run ends = justEnough().call("addCrossing", 0, 0, 130, 170).call("setTide", 3, -2);
        cancelled(ends, 0, 2, 170);
        cancelled(ends.call("setTide", 2, -2), 0, 2, 130);
    }

    private static void windComesFirst() {
        Check.sentence("Cancellations", "The reason of a crossing is the first one of these that applies");
        Run run = justEnough().call("addShip", 100, 1, 10, 50).call("addBerth", 300, 1).call("addCrossing", 0, 0, 100, 150);
        run.call("addCrossing", 0, 0, 110, 160).call("addCrossing", 0, 1, 120, 170);
        cancelled(cancelled(sails(run, 0), 1, 3, 0), 2, 4, 0);
        // crossing 3 has the ship of crossing 0 and the berth of crossing 4: the berth comes first
        run.call("addCrossing", 0, 1, 140, 180).call("addCrossing", 1, 1, 130, 145);
        cancelled(sails(run, 4), 3, 3, 4);
        run.call("setTide", 2, -60);
        cancelled(cancelled(run, 1, 2, 110), 3, 2, 140);
        run.call("setWind", 2, 51).call("setWind", 3, 52);
        cancelled(cancelled(run, 1, 1, 51), 3, 1, 52);
    }

    /** Whether a crossing from 100 to 200 is in the way of one that is decided after it. */
    private static void meets(boolean due, int arrival, int departure, int berth, int reason) {
        Run run = Run.easy().call("addShip", 100, 1, 10, 50).call("addBerth", 300, 1).call("addCrossing", 0, 0, 100, 200);
        run.call("addCrossing", berth == 0 ? 1 : 0, berth, arrival, departure);
        sails(run, 0);
        if (due) {
            cancelled(run, 1, reason, 0);
        } else {
            sails(run, 1);
        }
    }

    private static void stays() {
        Check.sentence("Cancellations", "3, its stay has a minute in common with the minutes from the arrival to the one before the end "
                + "of a crossing of the same berth");
        meets(true, 199, 200, 0, 3);
        meets(false, 200, 201, 0, 3);
        meets(true, 199, 499, 0, 3);
        meets(false, 200, 500, 0, 3);
        meets(true, 0, 200, 0, 3);
        meets(true, 100, 200, 0, 3);
        meets(true, 150, 201, 0, 3);
        Check.sentence("Crossings", "Its stay is all minutes from the arrival to the one before the departure");
        // decided before it are here the short ones, the last of which begins when the stay ends
        Run run = Run.easy().call("addShip", 100, 1, 10, 50).call("addCrossing", 0, 0, 100, 200);
        sails(sails(run.again().call("addCrossing", 1, 0, 99, 100), 0), 1);
        cancelled(sails(run.again().call("addCrossing", 1, 0, 99, 101), 1), 0, 3, 1);
        cancelled(sails(run.again().call("addCrossing", 1, 0, 100, 101), 1), 0, 3, 1);
        cancelled(sails(run.again().call("addCrossing", 1, 0, 198, 199), 1), 0, 3, 1);
        // a stay of one minute
        Run minute = Run.easy().call("addShip", 100, 1, 10, 50).call("addCrossing", 0, 0, 10, 11).call("addCrossing", 1, 0, 10, 11);
        cancelled(sails(minute, 0), 1, 3, 0);
        minute.call("addCrossing", 1, 0, 11, 12).call("addCrossing", 1, 0, 9, 10);
        sails(sails(sails(minute, 2), 3), 0);
    }

    private static void sameShip() {
        Check.sentence("Cancellations", "4, the same with a crossing of the same ship");
        meets(true, 199, 200, 1, 4);
        meets(false, 200, 201, 1, 4);
        meets(true, 199, 499, 1, 4);
        meets(false, 200, 500, 1, 4);
        meets(true, 0, 200, 1, 4);
        meets(true, 150, 201, 1, 4);
        Run run = Run.easy().call("addBerth", 300, 1).call("addCrossing", 0, 0, 100, 200);
        sails(sails(run.again().call("addCrossing", 0, 1, 99, 100), 0), 1);
        cancelled(sails(run.again().call("addCrossing", 0, 1, 99, 101), 1), 0, 4, 1);
        // another ship at another berth is never in the way
        sails(run.call("addShip", 100, 1, 10, 50).call("addCrossing", 1, 1, 100, 200), 1);
        sails(run, 0);
    }

    private static void delayedEnds() {
        Check.sentence("Crossings", "its end is the departure plus the delay.");
        Run run = Run.easy().call("addShip", 100, 1, 10, 50).call("addBerth", 300, 1).call("addCrossing", 0, 0, 100, 200);
        // a delay of 60, the longest one
        run.call("addConnection", 0, 250, 60, 1).due(60, "crossing", 0, 4);
        cancelled(run.again().call("addCrossing", 1, 0, 259, 300), 1, 3, 0);
        sails(run.again().call("addCrossing", 1, 0, 260, 300), 1);
        cancelled(run.again().call("addCrossing", 0, 1, 259, 300), 1, 4, 0);
        sails(run.again().call("addCrossing", 0, 1, 260, 300), 1);
        sails(run.again().call("addCrossing", 1, 1, 200, 300), 1);
        // a delay of one minute
        Run one = Run.easy().call("addCrossing", 0, 0, 100, 200).call("addConnection", 0, 191, 1, 1).due(1, "crossing", 0, 4);
        cancelled(one.again().call("addCrossing", 0, 0, 200, 300), 1, 3, 0);
        sails(one.again().call("addCrossing", 0, 0, 201, 300), 1);
        Check.sentence("Crossings", "whatever its delay is");
        // a crossing that is delayed sails all the same, and one between its departure and its end is kept out
        Run own = Run.easy().call("addCrossing", 0, 0, 100, 200).call("addCrossing", 0, 0, 200, 210);
        sails(sails(own, 0), 1).call("addConnection", 1, 210, 60, 1).due(10, "crossing", 1, 4);
        sails(sails(own, 0), 1);
    }

    private static void decidedBeforeAndSails() {
        Check.sentence("Cancellations", "that was decided before it and sails");
        Run run = Run.easy().call("addCrossing", 0, 0, 100, 200).call("addCrossing", 0, 0, 150, 250).call("addCrossing", 0, 0, 220, 260);
        // crossing 1 does not sail and so is not in the way of crossing 2
        sails(cancelled(sails(run, 0), 1, 3, 0), 2);
        // with crossing 0 gone it sails and is
        run.call("removeCrossing", 0);
        cancelled(sails(run, 0), 1, 3, 0);
        // one that is decided later is never in the way
        run.call("addCrossing", 0, 0, 0, 251);
        cancelled(sails(run, 0), 2, 3, 0);
        run.call("addCrossing", 0, 0, 0, 249);
        cancelled(cancelled(sails(run, 3), 0, 3, 3), 2, 3, 3);
    }

    private static void firstInTheWay() {
        Check.sentence("Cancellations", "the crossing that is in the way for 3 and 4, of several the one that was decided first.");
        Run run = Run.easy().call("addBerth", 300, 1).call("addCrossing", 0, 0, 0, 299);
        run.call("addCrossing", 0, 0, 50, 60).call("addCrossing", 0, 0, 10, 20).call("addCrossing", 0, 0, 30, 40);
        cancelled(run, 0, 3, 2);
        cancelled(run.call("removeCrossing", 2), 0, 3, 2);
        cancelled(run.call("removeCrossing", 2), 0, 3, 1);
        Run ship = Run.easy().call("addBerth", 300, 1).call("addCrossing", 0, 1, 0, 299);
        ship.call("addCrossing", 0, 0, 50, 60).call("addCrossing", 0, 0, 10, 20);
        cancelled(ship, 0, 4, 2);
        // the one at the same berth counts, also if one of the same ship was decided before
        ship.call("addShip", 100, 1, 10, 50).call("addCrossing", 1, 1, 70, 80);
        cancelled(ship, 0, 3, 3);
    }

    private static void reasonZero() {
        Check.sentence("Cancellations", "With reason 0 it sails, otherwise it is cancelled.");
        Run run = Run.rich().due(3, "account", 0).due(1, "account", 1);
        run.call("setWind", 0, 99).call("setWind", 1, 99).call("setWind", 2, 99).call("setWind", 3, 99);
        run.due(0, "account", 0).due(4, "account", 1).due(0, "ship", 0, 4).due(0, "berth", 0, 2).due(0, "account", 4).due(7, "account", 5);
        Run.full().due(12, "account", 0).due(0, "account", 1);
        Check.sentence("Cancellations", "0 otherwise.");
        sails(justEnough().call("setWind", 0, 50).call("addCrossing", 0, 0, 0, 1), 0);
        cancelled(justEnough().call("setWind", 0, 51).call("addCrossing", 0, 0, 0, 1), 0, 1, 51);
    }

    private static Run oneCrossing() {
        return justEnough().call("addCrossing", 0, 0, 100, 170);
    }

    private static void readyTimes() {
        Check.sentence("Connections", "Its ready time is the time of the feeder plus 10.");
        Run run = oneCrossing().call("addConnection", 0, 160, 0, 1).call("addConnection", 0, 161, 0, 1).call("addConnection", 0, 161, 1, 1);
        run.due(0, "connection", 0, 4).due(2, "connection", 1, 4).due(1, "connection", 2, 4).due(1, "crossing", 0, 4);
        Check.sentence("Connections", "A connection of a crossing that sails is kept if its ready time is at most the departure.");
        Run early = oneCrossing().call("addConnection", 0, 0, 0, 1).call("addConnection", 0, 159, 60, 1).call("addConnection", 0, 160, 60, 1);
        early.call("addConnection", 0, 161, 60, 1);
        early.due(0, "connection", 0, 4).due(0, "connection", 1, 4).due(0, "connection", 2, 4).due(1, "connection", 3, 4);
        // wind and water at the ready time do not matter for one that is kept without waiting
        Run bad = justEnough().call("addCrossing", 0, 0, 190, 230).call("addConnection", 0, 100, 0, 1).call("setWind", 1, 99).call("setTide", 1, -99);
        bad.due(0, "crossing", 0, 5).due(0, "connection", 0, 4);
        // the earliest departure at which a connection can be kept without waiting is 10
        Run first = justEnough().call("addCrossing", 0, 0, 0, 10).call("addConnection", 0, 0, 0, 1).due(0, "connection", 0, 4);
        first.call("removeCrossing", 0).call("addCrossing", 0, 0, 0, 9).call("addConnection", 0, 0, 0, 1).due(2, "connection", 0, 4);
    }

    private static void patience() {
        Check.sentence("Connections", "if its ready time is at most the departure plus its patience");
        for (int patience : new int[] {0, 1, 15, 59, 60}) {
            Run run = oneCrossing().call("addConnection", 0, 160 + patience, patience, 1).call("addConnection", 0, 161 + patience, patience, 1);
            run.due(patience == 0 ? 0 : 1, "connection", 0, 4).due(2, "connection", 1, 4).due(patience, "crossing", 0, 4);
        }
    }

    private static void latestReadyTime() {
        Check.sentence("Connections", "which arrives at a time from 0 to 2800");
        Run run = justEnough().call("addCrossing", 0, 0, 2700, 2800).call("addConnection", 0, 2800, 10, 1).call("addConnection", 0, 2800, 9, 1);
        run.due(1, "connection", 0, 4).due(2, "connection", 1, 4).due(10, "crossing", 0, 4);
        run.call("addConnection", 0, 2790, 0, 1).due(0, "connection", 2, 4);
        // 2810 belongs to the hour 46, and its height lies between the hours 46 and 47
        run.again().call("setWind", 47, 99).call("setTide", 48, -999).due(1, "connection", 0, 4);
        run.again().call("setTide", 47, -1).due(1, "connection", 0, 4);
        // 2800 has 40 of 60 minutes, 2810 has 50: -0.8 and -1.0
        run.again().call("setTide", 47, -1).call("setTide", 46, -1).due(2, "crossing", 0, 5).due(2, "connection", 0, 4);
        Run wait = justEnough().call("setTide", 46, 4).call("setTide", 47, -1).call("addCrossing", 0, 0, 2765, 2800);
        wait.call("addConnection", 0, 2800, 10, 1).due(1, "connection", 0, 4).call("setTide", 47, -2);
        wait.due(0, "crossing", 0, 5).due(2, "connection", 0, 4);
    }

    private static void windAtTheReadyTime() {
        Check.sentence("Connections", "the wind at the ready time is not greater than the wind limit of the ship");
        Run run = oneCrossing().call("addConnection", 0, 169, 60, 1).call("addConnection", 0, 170, 60, 1);
        run.call("setWind", 3, 50).due(1, "connection", 0, 4).due(1, "connection", 1, 4).due(10, "crossing", 0, 4);
        run.call("setWind", 3, 51).due(1, "connection", 0, 4).due(2, "connection", 1, 4).due(9, "crossing", 0, 4);
        // the wind of the hour after the ready time does not matter
        run.call("setWind", 3, 0).call("setWind", 4, 99).due(1, "connection", 1, 4);
        run.call("addConnection", 0, 220, 60, 1).due(1, "connection", 2, 4).due(60, "crossing", 0, 4);
        Run last = justEnough().call("addCrossing", 0, 0, 150, 180).call("addConnection", 0, 229, 60, 1).call("addConnection", 0, 230, 60, 1);
        last.call("setWind", 4, 51).due(1, "connection", 0, 4).due(2, "connection", 1, 4).due(59, "crossing", 0, 4);
    }

    private static void waterAtTheReadyTime() {
        Check.sentence("Connections", "the water at the berth at the ready time is not less than the draft of the ship plus the margin");
        Run run = oneCrossing().call("addConnection", 0, 169, 60, 1).call("addConnection", 0, 170, 60, 1).call("addConnection", 0, 171, 60, 1);
        // too low at 180 alone
        run.call("setTide", 3, -1).due(1, "connection", 0, 4).due(2, "connection", 1, 4).due(1, "connection", 2, 4).due(11, "crossing", 0, 4);
        run.call("setMargin", 49).due(1, "connection", 1, 4).call("setMargin", 50).due(2, "connection", 1, 4);
        run.call("setTide", 3, 0).due(1, "connection", 1, 4).call("setMargin", 51).due(2, "crossing", 0, 5).due(2, "connection", 1, 4);
        // it may be too low between the departure and the ready time
        run.call("setMargin", 50).call("setTide", 3, -1).due(1, "connection", 2, 4);
    }

    private static void greatestReadyTime() {
        Check.sentence("Connections", "The delay of a crossing is the greatest of the ready times of the connections for which it waits, "
                + "minus the departure.");
        Run run = oneCrossing().due(0, "crossing", 0, 4).call("addConnection", 0, 160, 60, 1).due(0, "crossing", 0, 4);
        run.call("addConnection", 0, 175, 20, 1).due(15, "crossing", 0, 4);
        run.call("addConnection", 0, 162, 20, 1).due(15, "crossing", 0, 4);
        run.call("addConnection", 0, 176, 20, 1).due(16, "crossing", 0, 4);
        // one that is missed does not count
        run.call("addConnection", 0, 190, 19, 1).due(2, "connection", 4, 4).due(16, "crossing", 0, 4);
        Check.sentence("Crossings", "A crossing that sails can have a delay, which is found by the rules of connections and is otherwise 0");
        // the delays of two crossings are apart
        run.call("addCrossing", 0, 0, 200, 270).call("addConnection", 1, 263, 3, 1).due(3, "crossing", 1, 4).due(16, "crossing", 0, 4);
        run.due(19, "account", 6);
    }

    private static void cancelledConnections() {
        Check.sentence("Connections", "All other connections, also those of cancelled crossings, are missed");
        Run run = oneCrossing().call("addConnection", 0, 0, 60, 1).call("addConnection", 0, 160, 60, 2).call("addConnection", 0, 170, 60, 4);
        run.due(7, "account", 2).due(0, "account", 3).call("setWind", 2, 51);
        run.due(2, "connection", 0, 4).due(2, "connection", 1, 4).due(2, "connection", 2, 4).due(0, "account", 2).due(7, "account", 3);
        run.due(0, "crossing", 0, 4).due(0, "account", 6);
        run.call("setWind", 2, 50).due(0, "connection", 0, 4).due(1, "connection", 2, 4).due(10, "crossing", 0, 4);
    }

    private static void otherDelays() {
        Check.sentence("Connections", "delays by other connections do not matter for this.");
        Run run = oneCrossing().call("addConnection", 0, 220, 60, 1).due(60, "crossing", 0, 4);
        // the crossing waits until 230, and these are missed all the same
        run.call("addConnection", 0, 161, 0, 1).call("addConnection", 0, 180, 19, 1).call("addConnection", 0, 180, 20, 1);
        run.due(2, "connection", 1, 4).due(2, "connection", 2, 4).due(1, "connection", 3, 4).due(60, "crossing", 0, 4);
        // one that is ready after the delayed end is not kept by it either
        run.call("addConnection", 0, 221, 60, 1).due(2, "connection", 4, 4).due(60, "crossing", 0, 4);
    }
}
