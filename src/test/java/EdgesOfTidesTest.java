/** The boundary cases of promises 25 to 28: height, heightBits, water and firstTime. */
public final class EdgesOfTidesTest {
    private static final int MIN = Integer.MIN_VALUE;
    private static final int MAX = Integer.MAX_VALUE;

    private EdgesOfTidesTest() {
    }

    public static void main(String[] args) {
        times();
        timeOfHeight();
        timeOfHeightBits();
        roundedDown();
        everyFullHour();
        greatestSlopes();
        towardZero();
        bitsOfZero();
        waterOfBerth();
        waterIsOfTheHeight();
        firstTimeElements();
        firstTimeFrom();
        firstTimeIsIncluded();
        justEnoughWater();
        noTimeUpToTheLast();
        Check.finish();
    }

    private static float between(int a, int b, int minute) {
        return (float) a + ((float) b - (float) a) * ((float) minute / 60.0f);
    }

    private static void times() {
        Check.sentence("Time", "Times are in minutes from 0 to 2879.");
        Run run = Run.rich().call("setTide", 0, 3).call("setTide", 47, 40).call("setTide", 48, 100);
        run.due(3, "height", 0).due(99, "height", 2879).due(Check.BAD, "height", -1).due(Check.BAD, "height", 2880);
        run.due(Float.floatToIntBits(3.0f), "heightBits", 0).due(Float.floatToIntBits(between(40, 100, 59)), "heightBits", 2879);
        run.due(1, "heightBits", -1).due(1, "heightBits", 2880);
        run.due(303, "water", 0, 0).due(399, "water", 0, 2879).due(Check.BAD, "water", 0, -1).due(Check.BAD, "water", 0, 2880);
        run.due(0, "firstTime", 0, 0, 0).due(2879, "firstTime", 0, 0, 2879);
        run.due(Check.BAD, "firstTime", 0, 0, -1).due(Check.BAD, "firstTime", 0, 0, 2880);
    }

    private static void timeOfHeight() {
        Check.sentence("Promise 25", "`time`: the time, 0 to 2879");
        Run.rich().range(Check.BAD, 0, 2879, 0, "height", 60);
        Check.sentence("Promise 25", "BAD_VALUE.");
        Run.rich().refused(Check.BAD, "height", 2880).refused(Check.BAD, "height", 2940).due(10, "height", 60);
    }

    private static void timeOfHeightBits() {
        Check.sentence("Promise 26", "`time`: the time, 0 to 2879");
        Run.rich().call("setTide", 48, 1).due(0, "heightBits", 0).due(0, "heightBits", 2820)
                .due(Float.floatToIntBits(between(0, 1, 59)), "heightBits", 2879);
        Check.sentence("Promise 26", "1 if the time is out of range.");
        Run.rich().refusedWith(1, Run.beyond(0, 2879), 0, "heightBits", 60).refusedWith(1, new int[] {-60, 2881, 2940}, 0, "heightBits", 60);
    }

    private static void roundedDown() {
        Check.sentence("Tides", "for the time t with the hour h = t / 60, rounded down");
        Run run = new Run().call("setTide", 1, 60).call("setTide", 2, -60).call("setTide", 47, 100).call("setTide", 48, -20);
        run.due(0, "height", 0).due(1, "height", 1).due(59, "height", 59).due(60, "height", 60).due(58, "height", 61);
        run.due(-58, "height", 119).due(-60, "height", 120).due(-59, "height", 121);
        run.due(98, "height", 2819).due(100, "height", 2820).due(98, "height", 2821).due(-18, "height", 2879);
    }

    private static void everyFullHour() {
        Check.sentence("Tides", "The height of the water, in centimeters above the chart, is given at each full hour from 0 to 48");
        Run run = new Run();
        for (int hour = 0; hour <= 48; hour++) {
            run.call("setTide", hour, 37 * hour % 100 - 50);
        }
        for (int hour = 0; hour <= 47; hour++) {
            run.due(37 * hour % 100 - 50, "height", 60 * hour);
            run.due(Float.floatToIntBits(37 * hour % 100 - 50), "heightBits", 60 * hour);
        }
        for (int hour = 0; hour <= 47; hour++) {
            float last = between(37 * hour % 100 - 50, 37 * (hour + 1) % 100 - 50, 59);
            run.due((int) last, "height", 60 * hour + 59).due(Float.floatToIntBits(last), "heightBits", 60 * hour + 59);
        }
    }

    private static void greatestSlopes() {
        Check.sentence("Tides", "it is found in floats");
        int[][] pairs = {{-999, 999}, {999, -999}, {999, 999}, {-999, -999}, {-999, 0}, {0, -999}, {998, 999}, {-1, 1}, {1, -1}, {0, 0}};
        for (int[] pair : pairs) {
            for (int hour : new int[] {0, 23, 47}) {
                Run run = new Run().call("setTide", hour, pair[0]).call("setTide", hour + 1, pair[1]);
                for (int minute = 0; minute < 60; minute++) {
                    float due = between(pair[0], pair[1], minute);
                    run.due(Float.floatToIntBits(due), "heightBits", 60 * hour + minute);
                    run.due((int) due, "height", 60 * hour + minute);
                }
            }
        }
    }

    private static void towardZero() {
        Check.sentence("Tides", "the height of t is the float height cast to int, that is, without its fraction, toward 0.");
        Run run = new Run().call("setTide", 1, -1).call("setTide", 3, 1).call("setTide", 5, -2).call("setTide", 7, 2);
        run.due(0, "height", 1).due(0, "height", 59).due(-1, "height", 60).due(0, "height", 61);
        run.due(0, "height", 179).due(1, "height", 180).due(0, "height", 181);
        run.due(0, "height", 269).due(-1, "height", 270).due(-1, "height", 299).due(-2, "height", 300).due(-1, "height", 301);
        run.due(0, "height", 389).due(1, "height", 390).due(1, "height", 419).due(2, "height", 420).due(1, "height", 421);
    }

    private static void bitsOfZero() {
        Check.sentence("Promise 26", "Returns the bits of the float, as by Float.floatToIntBits");
        // each of these goes through 0, at a full hour or between two
        Run run = new Run().call("setTide", 1, -30).call("setTide", 2, 30).call("setTide", 4, -40).call("setTide", 6, 20);
        run.due(0, "heightBits", 0).due(0, "heightBits", 90).due(0, "heightBits", 180).due(0, "heightBits", 300);
        run.due(Float.floatToIntBits(-0.5f), "heightBits", 1).due(Float.floatToIntBits(between(-30, 30, 29)), "heightBits", 89);
        run.due(Float.floatToIntBits(between(-30, 30, 31)), "heightBits", 91);
        // a height of 1 and of parts of 1, whose exponents are at the end of a range
        Run one = new Run().call("setTide", 1, 1).call("setTide", 2, 2).call("setTide", 3, 4);
        for (int time = 0; time <= 180; time++) {
            int hour = time / 60;
            int[] tides = {0, 1, 2, 4, 0};
            one.due(Float.floatToIntBits(between(tides[hour], tides[hour + 1], time % 60)), "heightBits", time);
        }
    }

    private static void waterOfBerth() {
        Check.sentence("Promise 27", "NO_SUCH_ELEMENT (checked first)");
        int[] none = {-1, 2, 3, MIN, MAX};
        Run.rich().refusedWith(Check.NO_SUCH, none, 0, "water", 0, 60).refusedWith(Check.NO_SUCH, none, 0, "water", 0, 2880);
        new Run().refused(Check.NO_SUCH, "water", 0, 0);
        Run.full().refused(Check.NO_SUCH, "water", 3, 0).due(302, "water", 2, 0);
        Check.sentence("Promise 27", "`time`: the time, 0 to 2879");
        Run.rich().range(Check.BAD, 0, 2879, 1, "water", 1, 60);
        Check.sentence("Promise 27", "BAD_VALUE.");
        Run.rich().refused(Check.BAD, "water", 1, 2880).refused(Check.BAD, "water", 0, -1).due(330, "water", 1, 60);
    }

    private static void waterIsOfTheHeight() {
        Check.sentence("Berths", "The water at a berth at a time is its depth plus the height, not the float height, at this time.");
        Run run = new Run().call("addBerth", 300, 1).call("addBerth", 0, 2).call("setTide", 1, -1).call("setTide", 3, 1);
        run.due(300, "water", 0, 59).due(299, "water", 0, 60).due(300, "water", 0, 61);
        run.due(0, "water", 1, 59).due(-1, "water", 1, 60).due(0, "water", 1, 61);
        run.due(300, "water", 0, 179).due(301, "water", 0, 180).due(300, "water", 0, 181);
        // -0.98 leaves 300, where 299.02 would be 299
        run.call("addShip", 250, 1, 10, 0).due(59, "firstTime", 0, 0, 59).due(61, "firstTime", 0, 0, 60);
    }

    private static void firstTimeElements() {
        Check.sentence("Promise 28", "NO_SUCH_ELEMENT if there is no such berth or ship (checked first)");
        int[] none = {-1, 2, 3, MIN, MAX};
        Run run = Run.rich();
        for (int place = 0; place < 2; place++) {
            run.refusedWith(Check.NO_SUCH, none, place, "firstTime", 0, 0, 60).refusedWith(Check.NO_SUCH, none, place, "firstTime", 0, 0, -1);
        }
        new Run().call("addShip", 100, 1, 10, 0).refused(Check.NO_SUCH, "firstTime", 0, 0, 60);
        new Run().call("addBerth", 300, 1).refused(Check.NO_SUCH, "firstTime", 0, 0, 60);
        Run.full().refused(Check.NO_SUCH, "firstTime", 3, 3, 0).refused(Check.NO_SUCH, "firstTime", 2, 4, 0).due(0, "firstTime", 2, 3, 0);
    }

    private static void firstTimeFrom() {
        Check.sentence("Promise 28", "`from`: the time, 0 to 2879");
        Run.easy().due(0, "firstTime", 0, 0, 0).due(1, "firstTime", 0, 0, 1).due(2878, "firstTime", 0, 0, 2878).due(2879, "firstTime", 0, 0, 2879);
        Check.sentence("Promise 28", "BAD_VALUE if the time is out of range (checked second)");
        Run.rich().refusedWith(Check.BAD, Run.beyond(0, 2879), 2, "firstTime", 0, 0, 60);
        // also where there would be no such time at all
        Run.easy().call("setBerth", 0, 0, 1).refused(Check.BAD, "firstTime", 0, 0, -1).refused(Check.BAD, "firstTime", 0, 0, 2880)
                .due(Check.NONE, "firstTime", 0, 0, 0);
    }

    private static void firstTimeIsIncluded() {
        Check.sentence("Promise 28", "Returns the first time, minute by minute, from a given one on, which is included");
        // the height is 60 at 600 alone and 59 a minute before and after
        Run run = new Run().call("addBerth", 300, 1).call("addShip", 310, 1, 10, 0).call("setTide", 10, 60);
        run.due(600, "firstTime", 0, 0, 0).due(600, "firstTime", 0, 0, 599).due(600, "firstTime", 0, 0, 600);
        run.due(Check.NONE, "firstTime", 0, 0, 601).call("setMargin", 49);
        run.due(599, "firstTime", 0, 0, 0).due(599, "firstTime", 0, 0, 599).due(600, "firstTime", 0, 0, 600);
        run.due(601, "firstTime", 0, 0, 601).due(Check.NONE, "firstTime", 0, 0, 602);
    }

    private static void justEnoughWater() {
        Check.sentence("Promise 28", "not less than the draft of a ship plus the margin");
        Run run = new Run().call("addBerth", 300, 1).call("addShip", 250, 1, 10, 0).due(0, "firstTime", 0, 0, 0);
        run.again().call("setMargin", 51).due(Check.NONE, "firstTime", 0, 0, 0);
        run.again().call("setBerth", 0, 299, 1).due(Check.NONE, "firstTime", 0, 0, 0);
        run.again().call("addShip", 251, 1, 10, 0).due(Check.NONE, "firstTime", 0, 1, 0);
        Run most = new Run().call("addBerth", 999, 1).call("addShip", 900, 1, 10, 0).call("setMargin", 200).call("setTide", 20, 101);
        most.due(1200, "firstTime", 0, 0, 0).call("setTide", 20, 100).due(Check.NONE, "firstTime", 0, 0, 0);
        Run least = new Run().call("addBerth", 0, 1).call("addShip", 50, 1, 10, 0).call("setMargin", 0).call("setTide", 20, 50);
        least.due(1200, "firstTime", 0, 0, 0).call("setTide", 20, 49).due(Check.NONE, "firstTime", 0, 0, 0);
    }

    private static void noTimeUpToTheLast() {
        Check.sentence("Promise 28", "NONE if there is no such time up to 2879.");
        // with 60 at the hour 48 the height is 59 at 2879, and would be 60 a minute later
        Run run = new Run().call("addBerth", 300, 1).call("addShip", 309, 1, 10, 0).call("setTide", 48, 60);
        run.due(2879, "firstTime", 0, 0, 0).due(2879, "firstTime", 0, 0, 2879);
        run.call("setMargin", 51).refused(Check.NONE, "firstTime", 0, 0, 0).refused(Check.NONE, "firstTime", 0, 0, 2879);
    }
}
