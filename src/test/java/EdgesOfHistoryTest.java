import java.util.List;

/** The boundary cases of promises 15, 40 and 41, and of the sentences about changes and error codes. */
public final class EdgesOfHistoryTest {
    /** A change each, of a rich run: all thirteen kinds of them, and what undo must bring back. */
    private static final Object[][] CHANGES = {
        {"addShip", 50, 1, 10, 0}, {"addBerth", 0, 1}, {"addCrossing", 0, 0, 900, 910}, {"addVehicle", 0, 3, 0},
        {"addConnection", 0, 0, 0, 1}, {"removeCrossing", 0}, {"removeCrossing", 3}, {"setBerth", 0, 299, 2},
        {"setTide", 0, -999}, {"setWind", 47, 99}, {"setMargin", 0}, {"read"}, {"takeOut", 0, 1}, {"takeOut", 2, 2}};

    private EdgesOfHistoryTest() {
    }

    public static void main(String[] args) {
        eachChange();
        changesOfNothing();
        noChanges();
        refusedCallsAreNoChanges();
        aTextIsOneChange();
        upToSix();
        latestFirst();
        notUndoneYet();
        afterSixUndos();
        textStays();
        shelfStays();
        nothingToUndo();
        saveLeavesOut();
        saveReplaces();
        copyRemains();
        nothingToUndoAfterRestore();
        nothingSaved();
        extremesAreSaved();
        firstCodeCounts();
        fiveHundredAndTwelveCalls();
        Check.finish();
    }

    private static Run make(Run run, Object[] change) {
        int[] numbers = new int[change.length - 1];
        for (int i = 0; i < numbers.length; i++) {
            numbers[i] = (Integer) change[i + 1];
        }
        Check.holds(change[0] + " is not refused", !Check.isError(run.ask((String) change[0], numbers)));
        return run;
    }

    private static List<Integer> data(Run run) {
        return Aftermath.DATA.shown(run.again());
    }

    private static void eachChange() {
        Check.sentence("History", "The calls addShip, addBerth, addCrossing, addVehicle, addConnection, removeCrossing, setBerth, setTide, "
                + "setWind, setMargin, read and takeOut that return no error code are changes");
        for (Object[] change : CHANGES) {
            Run run = Run.rich();
            List<Integer> before = data(run);
            make(run, change);
            Check.holds(change[0] + " changes something", !before.equals(data(run)));
            run.due(5, "undo");
            Check.holds("undo brings back what was before " + change[0], before.equals(data(run)));
            Check.holds("the results are as before " + change[0],
                    Aftermath.RESULTS.shown(Run.rich()).equals(Aftermath.RESULTS.shown(run)));
        }
    }

    private static void changesOfNothing() {
        Check.sentence("History", "also if nothing changes");
        Run run = new Run().due(0, "setTide", 5, 0).due(0, "undo").due(Check.NONE, "undo");
        run.due(0, "setWind", 5, 0).due(0, "undo").due(Check.NONE, "undo");
        run.due(50, "setMargin", 50).due(0, "undo").due(Check.NONE, "undo");
        run.call("addBerth", 300, 1).due(3001, "setBerth", 0, 300, 1).due(1, "undo").due(1, "count", 1).due(0, "undo");
        run.text("t5=0;w5=0").due(2, "read").due(0, "undo").due(Check.NONE, "undo");
        // six changes of nothing push out the one that changed something
        Run full = new Run().call("setTide", 7, 77);
        for (int i = 0; i < 5; i++) {
            full.call("setMargin", 50);
        }
        full.again().due(5, "undo").due(4, "undo").due(3, "undo").due(2, "undo").due(1, "undo").due(77, "tide", 7)
                .due(0, "undo").due(0, "tide", 7);
        full.call("setMargin", 50).due(5, "undo").due(4, "undo").due(3, "undo").due(2, "undo").due(1, "undo").due(0, "undo")
                .due(77, "tide", 7).due(Check.NONE, "undo").due(77, "tide", 7);
    }

    private static void noChanges() {
        Check.sentence("History", "The calls addShip");
        Run run = Run.rich().call("setTide", 9, 99).call("append", 'x').call("faultPosition").call("save").call("layDown", 2, 1, 0, 0);
        run.call("bestBerth", 0).call("sailingIf", 3).call("isOrderly").call("account", 4).call("firstTime", 0, 0, 0);
        run.due(5, "undo").due(0, "tide", 9).call("append", 'y').call("save").call("layDown", 0, 2, 0, 0);
        run.due(4, "undo").due(0, "wind", 1);
    }

    private static void refusedCallsAreNoChanges() {
        Check.sentence("History", "that return no error code");
        Run run = Run.rich().call("setTide", 9, 99);
        run.due(Check.BAD, "addShip", 0, 1, 10, 0).due(Check.BAD, "addBerth", -1, 1).due(Check.NO_SUCH, "addCrossing", 9, 0, 0, 1);
        run.due(Check.BAD, "addVehicle", 0, 2, 0).due(Check.BAD, "addConnection", 0, 0, 0, 0).due(Check.NO_SUCH, "removeCrossing", 4);
        run.due(Check.BAD, "setBerth", 0, -1, 1).due(Check.NO_SUCH, "setTide", 49, 0).due(Check.BAD, "setWind", 0, 100);
        run.due(Check.BAD, "setMargin", 201).due(Check.NONE, "takeOut", 0, 0).due(Check.NO_SUCH, "takeOut", 3, 0);
        run.text(";t49=0").due(Check.STATE, "read").due(Check.BAD, "read");
        run.due(5, "undo").due(0, "tide", 9).due(4, "undo");
    }

    private static void aTextIsOneChange() {
        Check.sentence("History", "a text that is read is one change, however many entries it has.");
        Run run = new Run().call("setMargin", 10);
        run.text("t0=1;t1=2;t2=3;t3=4;t4=5;t5=6;t6=7;t7=8;t8=9;w0=1;w1=2;w2=3").due(12, "read").due(3, "wind", 2);
        run.due(1, "undo").due(10, "count", 6);
        for (int hour = 0; hour <= 8; hour++) {
            run.due(0, "tide", hour).due(0, "wind", hour);
        }
        run.text("t0=1").due(1, "read").due(1, "undo").due(0, "tide", 0).due(0, "undo").due(50, "count", 6);
        Run six = new Run();
        for (int i = 1; i <= 7; i++) {
            six.text("t0=" + i + ";w0=" + i).due(2, "read");
        }
        for (int left = 5; left >= 0; left--) {
            six.due(left, "undo").due(left + 1, "tide", 0).due(left + 1, "wind", 0);
        }
        six.due(Check.NONE, "undo");
    }

    private static void upToSix() {
        Check.sentence("History", "The latest 6 changes can be undone, the latest first.");
        for (int changes = 0; changes <= 20; changes++) {
            Run run = new Run();
            for (int i = 1; i <= changes; i++) {
                run.call("setTide", 3, i);
            }
            int undoable = Math.min(changes, 6);
            for (int i = 1; i <= undoable; i++) {
                run.due(undoable - i, "undo").due(changes - i, "tide", 3);
            }
            run.refused(Check.NONE, "undo").due(changes - undoable, "tide", 3);
        }
    }

    private static void latestFirst() {
        Check.sentence("History", "the latest first");
        Run run = Run.easy().call("setTide", 0, 1).call("setWind", 0, 2).call("setMargin", 3).call("addCrossing", 0, 0, 0, 9);
        run.due(5, "undo").due(0, "count", 2).due(3, "count", 6).due(4, "undo").due(50, "count", 6).due(2, "wind", 0);
        run.due(3, "undo").due(0, "wind", 0).due(1, "tide", 0).due(2, "undo").due(0, "tide", 0).due(1, "count", 1);
        run.due(1, "undo").due(0, "count", 1).due(1, "count", 0).due(0, "undo").due(0, "count", 0).due(Check.NONE, "undo");
    }

    /** Every order of up to ten changes and undos, with the numbers that are due kept in a plain row. */
    private static void notUndoneYet() {
        Check.sentence("Promise 15", "Undoes the latest change that was not undone.");
        for (int order = 0; order < 1 << 10; order++) {
            Run run = new Run().call("setMargin", 100).call("setMargin", 101).call("setMargin", 102).call("setMargin", 103);
            int[] row = {50, 100, 101, 102, 103, 0, 0, 0, 0, 0, 0, 0, 0, 0, 0};
            int first = 0;
            int last = 4;
            for (int i = 0; i < 10; i++) {
                if ((order >> i & 1) == 1) {
                    run.due(row[last], "setMargin", i);
                    last++;
                    row[last] = i;
                    first = Math.max(first, last - 6);
                } else if (last > first) {
                    last--;
                    run.due(last - first, "undo").due(row[last], "count", 6);
                } else {
                    run.due(Check.NONE, "undo").due(row[last], "count", 6);
                }
            }
        }
    }

    private static void afterSixUndos() {
        Check.sentence("Promise 15", "Returns the number of changes that can still be undone");
        Run run = new Run();
        for (int i = 1; i <= 6; i++) {
            run.call("setTide", 3, i);
        }
        for (int left = 5; left >= 0; left--) {
            run.due(left, "undo");
        }
        run.due(Check.NONE, "undo").due(0, "setTide", 3, 70).due(0, "undo").due(0, "tide", 3).due(Check.NONE, "undo");
    }

    private static void textStays() {
        Check.sentence("Promise 15", "The text stays.");
        Run.rich().due(5, "undo").due(4, "count", 5).due(3, "faultPosition").due(1, "read").due(7, "tide", 5);
        // a text that was read does not come back with its entries undone
        Run.rich().due(1, "read").due(5, "undo").due(0, "count", 5).due(Check.BAD, "read").due(0, "faultPosition");
        Run.rich().call("read").text("t6=6").due(5, "undo").due(4, "count", 5).due(1, "read").due(6, "tide", 6).due(0, "tide", 5);
    }

    private static void shelfStays() {
        Check.sentence("History", "The shelf is not affected.");
        Run run = Run.easy().call("layDown", 0, 0, 0, 0).call("layDown", 2, 1, 1, 0).due(1, "undo").due(0, "undo");
        run.due(0, "lying", 0, 0).due(1, "lying", 2, 1).due(0, "takeOut", 0, 0).due(100, "ship", 0, 0).due(0, "takeOut", 2, 1);
        run.due(300, "berth", 0, 0).due(1, "undo").due(0, "undo").due(0, "lying", 0, 0).due(1, "lying", 2, 1);
        // a copy laid down in place of another one does not come back either
        Run other = Run.easy().call("layDown", 2, 0, 0, 0).call("setMargin", 1).call("layDown", 2, 0, 1, 0).due(2, "undo");
        other.due(1, "lying", 2, 0);
    }

    private static void nothingToUndo() {
        Check.sentence("Promise 15", "NONE if there is none.");
        new Run().refused(Check.NONE, "undo");
        Run.easy().due(1, "undo").due(0, "undo").refused(Check.NONE, "undo").refused(Check.NONE, "undo");
        Run.rich().call("restore").refused(Check.NONE, "undo");
        Run run = Run.rich();
        for (int left = 5; left >= 0; left--) {
            run.due(left, "undo");
        }
        run.refused(Check.NONE, "undo");
    }

    private static void saveLeavesOut() {
        Check.sentence("Promise 40", "Saves everything but the text, the fault position, the history and the shelf.");
        Run run = Run.rich().due(4, "save").text(";t8=x").due(Check.BAD, "read").due(8, "faultPosition").text("ab");
        run.call("layDown", 2, 2, 0, 0).call("layDown", 0, 0, 0, 0).call("setMargin", 7).due(4, "restore");
        run.due(2, "count", 5).due(8, "faultPosition").due(0, "lying", 2, 2).due(0, "lying", 0, 0).due(Check.NONE, "undo");
        run.due(60, "count", 6);
        // save itself leaves all of them, too
        Run saved = Run.rich().due(4, "save").due(4, "count", 5).due(3, "faultPosition").due(1, "lying", 2, 2);
        saved.due(5, "undo").due(0, "wind", 1).due(4, "undo");
        for (Object[] change : CHANGES) {
            Run changed = make(Run.rich().call("save"), change).call("restore");
            Check.holds("restore brings back what was before " + change[0], data(Run.rich()).equals(data(changed)));
        }
    }

    private static void saveReplaces() {
        Check.sentence("Promise 40", "It replaces an earlier copy.");
        Run run = new Run().due(0, "save").call("setTide", 0, 1).due(0, "save").call("setTide", 0, 2).due(0, "restore").due(1, "tide", 0);
        run.call("addShip", 100, 1, 10, 0).call("addBerth", 300, 1).call("addCrossing", 0, 0, 0, 9).due(1, "save");
        run.due(0, "removeCrossing", 0).due(1, "restore").due(0, "removeCrossing", 0).due(0, "save").due(0, "restore");
        run.due(0, "count", 2).due(1, "count", 0);
        Check.sentence("Promise 40", "Returns the number of crossings.");
        new Run().due(0, "save");
        Run.full().due(12, "save");
    }

    private static void copyRemains() {
        Check.sentence("Promise 41", "The copy remains available.");
        Run run = Run.rich().call("save");
        List<Integer> before = data(run);
        for (int i = 0; i < 3; i++) {
            run.call("removeCrossing", 1).call("setTide", 48, 9).call("addShip", 60, 1, 10, 9).due(4, "restore");
            Check.holds("all is as saved", before.equals(data(run)));
        }
        // an undo does not touch the copy
        run.call("setMargin", 1).call("save").due(0, "undo").due(60, "count", 6).due(4, "restore").due(1, "count", 6);
    }

    private static void nothingToUndoAfterRestore() {
        Check.sentence("Promise 41", "No change can be undone afterwards.");
        Run run = Run.rich().due(4, "restore").refused(Check.NONE, "undo").due(50, "count", 6);
        run.due(50, "setMargin", 9).due(0, "undo").due(50, "count", 6).refused(Check.NONE, "undo");
        for (int i = 0; i < 7; i++) {
            run.call("setMargin", i);
        }
        run.due(5, "undo").due(5, "count", 6).due(4, "restore").due(Check.NONE, "undo").due(50, "count", 6);
        // a restore that brings back nothing else forgets the changes too
        new Run().call("setMargin", 9).call("save").due(0, "restore").due(Check.NONE, "undo").due(9, "count", 6);
    }

    private static void nothingSaved() {
        Check.sentence("Promise 41", "STATE if nothing was saved.");
        new Run().refused(Check.STATE, "restore");
        Run.easy().refused(Check.STATE, "restore").due(1, "undo").due(0, "undo");
        new Run().due(0, "save").due(0, "restore").due(0, "restore");
    }

    private static void extremesAreSaved() {
        Check.sentence("Promise 41", "Restores what was saved.");
        Run full = Run.full().call("setTide", 0, -999).call("setTide", 48, 999).call("setWind", 0, 99).call("setWind", 47, 98).call("setMargin", 200);
        List<Integer> before = data(full);
        full.due(12, "save");
        for (int left = 11; left >= 0; left--) {
            full.due(left, "removeCrossing", 0);
        }
        full.call("setTide", 0, 1).call("setTide", 48, 1).call("setWind", 0, 1).call("setWind", 47, 1).call("setMargin", 1);
        full.due(12, "restore");
        Check.holds("all is as saved", before.equals(data(full)));
        full.due(Check.FULL, "addCrossing", 0, 0, 0, 1).due(Check.FULL, "addVehicle", 0, 3, 0).due(Check.FULL, "addShip", 50, 1, 10, 0);
        // an empty port that was saved comes back empty
        Run empty = new Run().call("save").call("addShip", 100, 1, 10, 0).call("addBerth", 300, 1).call("addCrossing", 0, 0, 0, 9);
        empty.due(0, "restore").due(0, "count", 0).due(0, "count", 1).due(0, "count", 2).due(0, "addShip", 50, 1, 10, 0);
    }

    private static void firstCodeCounts() {
        Check.sentence("Error codes", "If several error codes are possible, the one that is mentioned first is returned, unless the order is described.");
        Run run = Run.rich();
        run.due(Check.NO_SUCH, "water", 2, -1).due(Check.NO_SUCH, "crossing", 4, 10).due(Check.NO_SUCH, "vehicle", 7, 7);
        run.due(Check.NO_SUCH, "connection", 3, 5).due(Check.NO_SUCH, "ship", 2, 5).due(Check.NO_SUCH, "berth", 2, 3);
        run.due(Check.NO_SUCH, "firstTime", 2, 0, -1).due(Check.NO_SUCH, "laneLeft", 2, 2).due(Check.STATE, "laneLeft", 2, 1);
        run.due(Check.NO_SUCH, "layDown", 3, 0, 2, 9).due(Check.BAD, "layDown", 0, 0, 2, 9).due(Check.NO_SUCH, "layDown", 0, 0, 1, 9);
        run.due(Check.UNLIKE, "layDown", 0, 0, 1, 0).due(Check.NO_SUCH, "takeOut", 0, 3).due(Check.NONE, "takeOut", 0, 0);
        Check.sentence("Error codes", "A call that returns an error code leaves everything unchanged, unless its description says otherwise.");
        Check.holds("the data", data(Run.rich()).equals(data(run)));
        for (Aftermath aftermath : Aftermath.values()) {
            Check.holds(aftermath + " is as it was", aftermath.shown(Run.rich()).equals(aftermath.shown(run.again())));
        }
    }

    private static void fiveHundredAndTwelveCalls() {
        Check.sentence("What it is", "An object is used for at most 512 calls after it has been made");
        Run run = Run.rich();
        int margin = 60;
        while (run.calls() < Run.MOST_CALLS - 8) {
            int next = run.calls() % 201;
            run.due(margin, "setMargin", next);
            margin = next;
        }
        run.due(5, "undo").due(1, "read").due(5, "undo").due(4, "restore").due(50, "count", 6);
        run.due(4, "addCrossing", 0, 0, 900, 950).due(4, "account", 0).due(1, "isOrderly");
        Check.due("the number of calls", Run.MOST_CALLS, run.calls());
    }
}
