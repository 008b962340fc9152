/** Promises 15, 40 and 41: undo, save and restore. */
public final class HistoryTest {
    private HistoryTest() {
    }

    public static void main(String[] args) {
        undoEachChange();
        errorsAreNoChanges();
        onlyTheLatestSix();
        undoAndChangeAgain();
        shelfAndTextStay();
        saveAndRestore();
        Check.finish();
    }

    private static FerryTimetable fullPort() {
        FerryTimetable x = Check.easyPort();
        x.addCrossing(0, 0, 0, 60);
        x.addCrossing(0, 0, 100, 160);
        x.addVehicle(0, 4, 1);
        x.addVehicle(1, 5, 2);
        x.addConnection(0, 10, 20, 30);
        x.addConnection(1, 11, 21, 31);
        x.setTide(2, 22);
        x.setWind(3, 33);
        x.setMargin(44);
        return x;
    }

    /** The data of a port of fullPort's size, and what follows from them, in some 90 calls: an object has 512. */
    private static String shown(FerryTimetable x) {
        StringBuilder s = new StringBuilder();
        for (int what = 0; what < 7; what++) {
            s.append(what == 5 ? 0 : x.count(what)).append(' ');
        }
        for (int i = 0; i < 2; i++) {
            for (int what = 0; what < 10; what++) {
                s.append(x.crossing(i, what)).append(' ');
                s.append(what < 5 ? x.ship(i, what) : 0).append(' ').append(what < 3 ? x.berth(i, what) : 0).append(' ');
                s.append(what < 7 ? x.vehicle(i, what) : 0).append(' ').append(what < 5 ? x.connection(i, what) : 0).append(' ');
            }
        }
        for (int hour = 0; hour < 10; hour++) {
            s.append(x.tide(hour)).append(' ').append(x.wind(hour)).append(' ');
        }
        return s.toString();
    }

    private static void undoEachChange() {
        Check.part("Promise 15");
        for (int change = 0; change < 13; change++) {
            FerryTimetable x = fullPort();
            x.layDown(2, 0, 0, 0);
            x.layDown(2, 1, 1, 0);
            Check.append(x, "t9=9;v0,3,3");
            String before = shown(x);
            int answer = change(x, change);
            Check.holds("change " + change + " answers no error", answer > Check.NO_SUCH);
            Check.holds("change " + change + " changes something", !before.equals(shown(x)));
            Check.due("undo() of change " + change, 5, x.undo());
            Check.holds("all is as before change " + change, before.equals(shown(x)));
        }
    }

    private static int change(FerryTimetable x, int change) {
        switch (change) {
            case 0: return x.addShip(50, 1, 10, 0);
            case 1: return x.addBerth(0, 1);
            case 2: return x.addCrossing(0, 0, 0, 10);
            case 3: return x.addVehicle(0, 3, 0);
            case 4: return x.addConnection(0, 0, 0, 1);
            case 5: return x.removeCrossing(0);
            case 6: return x.setBerth(0, 7, 2);
            case 7: return x.setTide(0, -5);
            case 8: return x.setWind(0, 5);
            case 9: return x.setMargin(5);
            case 10: return x.read();
            case 11: return x.takeOut(2, 0);
            default: return x.takeOut(2, 1);
        }
    }

    private static void errorsAreNoChanges() {
        Check.part("Promise 15, errors");
        FerryTimetable x = Check.easyPort();
        x.setTide(1, 5);
        x.addShip(0, 0, 0, 0);
        x.addBerth(-1, 0);
        x.addCrossing(9, 0, 0, 1);
        x.addVehicle(0, 0, 0);
        x.addConnection(0, 0, 0, 0);
        x.removeCrossing(0);
        x.setBerth(0, -1, 1);
        x.setTide(1, 5000);
        x.setWind(1, -1);
        x.setMargin(-1);
        x.read();
        Check.append(x, "c9,9,9,9");
        x.read();
        x.takeOut(0, 0);
        x.takeOut(9, 0);
        Check.due("undo()", 2, x.undo());
        Check.due("tide(1)", 0, x.tide(1));
        x.setTide(1, 0);
        x.setMargin(50);
        Check.due("undo() of a change that changed nothing", 3, x.undo());
        Check.due("undo() of a change that changed nothing", 2, x.undo());
        x.layDown(0, 0, 0, 0);
        x.save();
        x.append('t');
        x.bestBerth(0);
        x.sailingIf(7);
        Check.due("undo()", 1, x.undo());
        Check.due("undo()", 0, x.undo());
        Check.due("undo()", Check.NONE, x.undo());
        Check.due("count(0)", 0, x.count(0));
        Check.due("count(1)", 0, x.count(1));
    }

    private static void onlyTheLatestSix() {
        Check.part("Promise 15, six");
        FerryTimetable x = new FerryTimetable();
        for (int i = 1; i <= 20; i++) {
            x.setMargin(i);
        }
        for (int i = 5; i >= 0; i--) {
            Check.due("undo()", i, x.undo());
            Check.due("count(6)", 14 + i, x.count(6));
        }
        Check.due("undo()", Check.NONE, x.undo());
        Check.due("count(6)", 14, x.count(6));
    }

    private static void undoAndChangeAgain() {
        Check.part("Promise 15, undo and change");
        FerryTimetable x = new FerryTimetable();
        for (int i = 1; i <= 7; i++) {
            x.setMargin(i);
        }
        x.undo();
        Check.due("undo()", 4, x.undo());
        x.setMargin(100);
        x.setMargin(101);
        x.setMargin(102);
        int[] margins = {101, 100, 5, 4, 3, 2};
        for (int i = 0; i < 6; i++) {
            Check.due("undo()", 5 - i, x.undo());
            Check.due("count(6)", margins[i], x.count(6));
        }
        Check.due("undo()", Check.NONE, x.undo());
    }

    private static void shelfAndTextStay() {
        Check.part("Promise 15, what stays");
        FerryTimetable x = Check.easyPort();
        x.layDown(0, 0, 0, 0);
        x.append(Check.packed("t1=5"));
        x.undo();
        x.undo();
        Check.due("count(0)", 0, x.count(0));
        Check.due("count(5)", 4, x.count(5));
        Check.due("lying(0, 0)", 0, x.lying(0, 0));
        Check.due("takeOut(0, 0)", 0, x.takeOut(0, 0));
        Check.due("ship(0, 2)", 20, x.ship(0, 2));
        Check.due("read()", 1, x.read());
        Check.due("tide(1)", 5, x.tide(1));
    }

    private static void saveAndRestore() {
        Check.part("Promises 40 and 41");
        FerryTimetable x = fullPort();
        Check.due("restore() before save", Check.STATE, x.restore());
        Check.due("undo() after a restore that failed", 5, x.undo());
        x.setMargin(44);
        String before = shown(x);
        Check.due("save()", 2, x.save());
        Check.due("undo() after save", 5, x.undo());
        x.layDown(1, 2, 1, 0);
        Check.append(x, "t7=7");
        for (int change = 0; change < 11; change++) {
            change(x, change);
        }
        x.takeOut(1, 2);
        Check.append(x, "ab");
        Check.holds("all has changed", !before.equals(shown(x)));
        Check.due("restore()", 2, x.restore());
        Check.holds("all is as saved", before.equals(shown(x)));
        Check.due("undo() after restore", Check.NONE, x.undo());
        Check.due("the text stays", 2, x.count(5));
        Check.due("the shelf stays", 1, x.lying(1, 2));
        x.removeCrossing(0);
        x.removeCrossing(0);
        Check.due("undo()", 1, x.undo());
        x.removeCrossing(0);
        Check.due("restore() again", 2, x.restore());
        Check.holds("all is as saved", before.equals(shown(x)));
        x.addCrossing(0, 0, 200, 260);
        Check.due("save() in place of the first copy", 3, x.save());
        x.removeCrossing(0);
        Check.due("restore()", 3, x.restore());
        Check.due("crossing(2, 2)", 200, x.crossing(2, 2));
        FerryTimetable empty = new FerryTimetable();
        Check.due("save() of an empty port", 0, empty.save());
        empty.addShip(50, 1, 10, 0);
        Check.due("restore()", 0, empty.restore());
        Check.due("count(0)", 0, empty.count(0));
    }
}
