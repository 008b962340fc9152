/** Promises 37 to 39: layDown, takeOut and lying. */
public final class ShelfTest {
    private ShelfTest() {
    }

    public static void main(String[] args) {
        layDown();
        takeOut();
        lying();
        Check.finish();
    }

    private static void layDown() {
        Check.part("Promise 37");
        FerryTimetable x = new FerryTimetable();
        Check.due("layDown(0, 0, 0, 0) of no ship", Check.NO_SUCH, x.layDown(0, 0, 0, 0));
        Check.due("layDown(0, 0, 1, 0) of no berth", Check.NO_SUCH, x.layDown(0, 0, 1, 0));
        x.addShip(100, 2, 20, 50);
        x.addBerth(300, 1);
        int[][] noPlace = {{-1, 0}, {3, 0}, {0, -1}, {0, 3}, {Integer.MIN_VALUE, 0}, {0, Integer.MAX_VALUE}, {1, -1}, {-1, 3}};
        for (int[] p : noPlace) {
            Check.due("layDown in no place", Check.NO_SUCH, x.layDown(p[0], p[1], 9, 9));
        }
        Check.due("layDown(0, 0, 2, 9)", Check.BAD, x.layDown(0, 0, 2, 9));
        Check.due("layDown(0, 0, -1, 0)", Check.BAD, x.layDown(0, 0, -1, 0));
        Check.due("layDown(1, 0, 0, 1)", Check.NO_SUCH, x.layDown(1, 0, 0, 1));
        Check.due("layDown(0, 0, 1, 1)", Check.NO_SUCH, x.layDown(0, 0, 1, 1));
        Check.due("layDown(0, 0, 0, -1)", Check.NO_SUCH, x.layDown(0, 0, 0, -1));
        Check.due("layDown(1, 0, 0, 0)", Check.UNLIKE, x.layDown(1, 0, 0, 0));
        Check.due("layDown(0, 0, 1, 0)", Check.UNLIKE, x.layDown(0, 0, 1, 0));
        Check.due("lying(1, 0)", Check.NONE, x.lying(1, 0));
        Check.due("layDown(0, 2, 0, 0)", 1, x.layDown(0, 2, 0, 0));
        Check.due("layDown(0, 2, 0, 0) again", 1, x.layDown(0, 2, 0, 0));
        Check.due("layDown(0, 0, 0, 0)", 2, x.layDown(0, 0, 0, 0));
        Check.due("layDown(0, 1, 0, 0)", 3, x.layDown(0, 1, 0, 0));
        Check.due("layDown(1, 0, 1, 0)", 1, x.layDown(1, 0, 1, 0));
        Check.due("layDown(2, 0, 0, 0)", 1, x.layDown(2, 0, 0, 0));
        Check.due("layDown(2, 2, 1, 0)", 2, x.layDown(2, 2, 1, 0));
        Check.due("layDown(2, 2, 0, 0) in its place", 2, x.layDown(2, 2, 0, 0));
        Check.due("lying(2, 2)", 0, x.lying(2, 2));
        Check.due("layDown(0, 0, 1, 0) on a filled place", Check.UNLIKE, x.layDown(0, 0, 1, 0));
        Check.due("lying(0, 0)", 0, x.lying(0, 0));
    }

    private static void takeOut() {
        Check.part("Promise 38");
        FerryTimetable x = new FerryTimetable();
        int[][] noPlace = {{-1, 0}, {3, 0}, {0, -1}, {0, 3}, {1, 3}, {Integer.MAX_VALUE, 0}};
        for (int[] p : noPlace) {
            Check.due("takeOut of no place", Check.NO_SUCH, x.takeOut(p[0], p[1]));
        }
        Check.due("takeOut(0, 0)", Check.NONE, x.takeOut(0, 0));
        x.addShip(100, 2, 20, 50);
        x.addShip(110, 3, 21, 51);
        x.addBerth(300, 2);
        x.layDown(0, 1, 0, 1);
        x.layDown(2, 1, 1, 0);
        x.setBerth(0, 7, 1);
        Check.due("takeOut(0, 1)", 2, x.takeOut(0, 1));
        int[] ship = {110, 3, 21, 51};
        for (int what = 0; what < 4; what++) {
            Check.due("ship(2, " + what + ")", ship[what], x.ship(2, what));
        }
        Check.due("takeOut(2, 1), as it was laid down", 1, x.takeOut(2, 1));
        Check.due("berth(1, 0)", 300, x.berth(1, 0));
        Check.due("berth(1, 1)", 2, x.berth(1, 1));
        Check.due("it stays", 1, x.lying(2, 1));
        Check.due("takeOut(2, 1)", 2, x.takeOut(2, 1));
        Check.due("takeOut(2, 1) of a fourth berth", Check.FULL, x.takeOut(2, 1));
        Check.due("takeOut(0, 1)", 3, x.takeOut(0, 1));
        Check.due("takeOut(0, 1) of a fifth ship", Check.FULL, x.takeOut(0, 1));
        Check.due("takeOut(0, 0) of an empty place of a full port", Check.NONE, x.takeOut(0, 0));
        Check.due("count(0)", 4, x.count(0));
        Check.due("count(1)", 3, x.count(1));
        Check.due("undo(), takeOut is a change", 5, x.undo());
        Check.due("count(0)", 3, x.count(0));
        Check.due("it still stays", 0, x.lying(0, 1));
    }

    private static void lying() {
        Check.part("Promise 39");
        FerryTimetable x = Check.easyPort();
        x.layDown(0, 0, 0, 0);
        x.layDown(1, 1, 1, 0);
        x.layDown(2, 0, 0, 0);
        x.layDown(2, 2, 1, 0);
        int[][] due = {{0, Check.NONE, Check.NONE}, {Check.NONE, 1, Check.NONE}, {0, Check.NONE, 1}};
        for (int row = 0; row < 3; row++) {
            for (int place = 0; place < 3; place++) {
                Check.due("lying(" + row + ", " + place + ")", due[row][place], x.lying(row, place));
            }
        }
        int[][] noPlace = {{-1, 0}, {3, 0}, {0, -1}, {0, 3}, {1, -1}, {Integer.MIN_VALUE, 0}, {0, Integer.MAX_VALUE}};
        for (int[] p : noPlace) {
            Check.due("lying of no place", Check.NO_SUCH, x.lying(p[0], p[1]));
        }
    }
}
