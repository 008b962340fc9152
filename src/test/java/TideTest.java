/** Promises 25 to 28: height, heightBits, water and firstTime. */
public final class TideTest {
    private static final int MIN = Integer.MIN_VALUE;
    private static final int MAX = Integer.MAX_VALUE;

    private TideTest() {
    }

    public static void main(String[] args) {
        height();
        allBits();
        water();
        firstTime();
        Check.finish();
    }

    private static void height() {
        Check.part("Promises 25 and 26");
        FerryTimetable x = new FerryTimetable();
        for (int bad : new int[] {-1, 2880, MIN, MAX}) {
            Check.due("height(" + bad + ")", Check.BAD, x.height(bad));
            Check.due("heightBits(" + bad + ")", 1, x.heightBits(bad));
        }
        Check.due("height(0)", 0, x.height(0));
        Check.due("heightBits(0)", 0, x.heightBits(0));
        Check.due("heightBits(2879)", 0, x.heightBits(2879));
        x.setTide(1, 100);
        x.setTide(2, -50);
        x.setTide(48, 60);
        Check.due("height(59)", 98, x.height(59));
        Check.due("height(60)", 100, x.height(60));
        Check.due("height(61)", 97, x.height(61));
        Check.due("height(99)", 2, x.height(99));
        Check.due("height(100)", 0, x.height(100));
        Check.due("heightBits(100)", 0, x.heightBits(100));
        Check.due("height(101), toward 0", -2, x.height(101));
        Check.due("heightBits(101)", Float.floatToIntBits(-2.5f), x.heightBits(101));
        Check.due("height(120)", -50, x.height(120));
        Check.due("height(121), toward 0", -49, x.height(121));
        Check.due("height(180)", 0, x.height(180));
        Check.due("height(2879)", 59, x.height(2879));
        Check.due("heightBits(2879)", Float.floatToIntBits(60 * (59 / 60.0f)), x.heightBits(2879));
        x.setTide(5, -20);
        Check.due("heightBits(270)", Float.floatToIntBits(-10.0f), x.heightBits(270));
        Check.due("heightBits(300)", Float.floatToIntBits(-20.0f), x.heightBits(300));
    }

    /** Many pairs of heights, and every minute between them. */
    private static void allBits() {
        Check.part("Promise 26");
        int[] heights = {-999, -998, -500, -61, -60, -59, -3, -1, 0, 1, 2, 7, 59, 60, 61, 512, 997, 998, 999};
        for (int a : heights) {
            for (int b : heights) {
                FerryTimetable x = new FerryTimetable();
                x.setTide(20, a);
                x.setTide(21, b);
                for (int m = 0; m < 60; m++) {
                    float due = (float) a + ((float) b - (float) a) * ((float) m / 60.0f);
                    Check.due("heightBits between " + a + " and " + b, Float.floatToIntBits(due), x.heightBits(1200 + m));
                    Check.due("height between " + a + " and " + b, (int) due, x.height(1200 + m));
                }
            }
        }
    }

    private static void water() {
        Check.part("Promise 27");
        FerryTimetable x = new FerryTimetable();
        Check.due("water(0, -1) of no berth", Check.NO_SUCH, x.water(0, -1));
        x.addBerth(300, 1);
        x.addBerth(10, 1);
        Check.due("water(2, 9999)", Check.NO_SUCH, x.water(2, 9999));
        Check.due("water(-1, 0)", Check.NO_SUCH, x.water(-1, 0));
        Check.due("water(0, -1)", Check.BAD, x.water(0, -1));
        Check.due("water(0, 2880)", Check.BAD, x.water(0, 2880));
        Check.due("water(1, 2879)", 10, x.water(1, 2879));
        x.setTide(0, -25);
        Check.due("water(0, 0)", 275, x.water(0, 0));
        Check.due("water(1, 0), below the chart", -15, x.water(1, 0));
        Check.due("water(0, 1), -24.58 is -24", 276, x.water(0, 1));
        x.setBerth(0, 310, 1);
        Check.due("water(0, 1)", 286, x.water(0, 1));
    }

    private static void firstTime() {
        Check.part("Promise 28");
        FerryTimetable x = new FerryTimetable();
        Check.due("firstTime without berths", Check.NO_SUCH, x.firstTime(0, 0, -1));
        x.addBerth(300, 1);
        Check.due("firstTime without ships", Check.NO_SUCH, x.firstTime(0, 0, -1));
        x.addShip(250, 1, 10, 0);
        Check.due("firstTime(1, 0, 0)", Check.NO_SUCH, x.firstTime(1, 0, 0));
        Check.due("firstTime(0, 1, 0)", Check.NO_SUCH, x.firstTime(0, 1, 0));
        Check.due("firstTime(-1, 0, 0)", Check.NO_SUCH, x.firstTime(-1, 0, 0));
        Check.due("firstTime(0, -1, 0)", Check.NO_SUCH, x.firstTime(0, -1, 0));
        Check.due("firstTime(0, 0, -1)", Check.BAD, x.firstTime(0, 0, -1));
        Check.due("firstTime(0, 0, 2880)", Check.BAD, x.firstTime(0, 0, 2880));
        Check.due("firstTime(0, 0, 0), just enough", 0, x.firstTime(0, 0, 0));
        Check.due("firstTime(0, 0, 2879)", 2879, x.firstTime(0, 0, 2879));
        x.setMargin(51);
        Check.due("firstTime with a centimeter too little", Check.NONE, x.firstTime(0, 0, 0));
        x.setTide(10, 60);
        Check.due("firstTime(0, 0, 0)", 541, x.firstTime(0, 0, 0));
        Check.due("firstTime(0, 0, 541)", 541, x.firstTime(0, 0, 541));
        Check.due("firstTime(0, 0, 659)", 659, x.firstTime(0, 0, 659));
        Check.due("firstTime(0, 0, 660)", Check.NONE, x.firstTime(0, 0, 660));
        x.setTide(48, 60);
        Check.due("firstTime(0, 0, 660)", 2821, x.firstTime(0, 0, 660));
        x.setTide(48, 1);
        Check.due("firstTime(0, 0, 660), 1 only at 2880", Check.NONE, x.firstTime(0, 0, 660));
        x.setBerth(0, 301, 1);
        Check.due("firstTime(0, 0, 660)", 660, x.firstTime(0, 0, 660));
    }
}
