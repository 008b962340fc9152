/** The boundary cases of promises 37 to 39: layDown, takeOut and lying. */
public final class EdgesOfShelfTest {
    private static final int MIN = Integer.MIN_VALUE;
    private static final int MAX = Integer.MAX_VALUE;

    private EdgesOfShelfTest() {
    }

    public static void main(String[] args) {
        emptyAtFirst();
        whatARowTakes();
        placesOfLayDown();
        kinds();
        numbers();
        unlike();
        filledPlaces();
        inPlaceOfAnother();
        copies();
        placesOfTakeOut();
        emptyPlaces();
        fullPort();
        fullOfTheOtherKind();
        staysOnTheShelf();
        placesOfLying();
        Check.finish();
    }

    /** The refusals of a row and of a place beyond their ranges. */
    private static void noPlace(Run run, String name, int... arguments) {
        run.refusedWith(Check.NO_SUCH, new int[] {-1, 3, 4, MIN, MAX}, 0, name, arguments);
        run.refusedWith(Check.NO_SUCH, new int[] {-1, 3, 4, MIN, MAX}, 1, name, arguments);
        // row and place that together would make the number of another place
        arguments[0] = 1;
        arguments[1] = -1;
        run.refused(Check.NO_SUCH, name, arguments);
        arguments[0] = -1;
        arguments[1] = 5;
        run.refused(Check.NO_SUCH, name, arguments);
        arguments[0] = 0;
        arguments[1] = 8;
        run.refused(Check.NO_SUCH, name, arguments);
    }

    private static void emptyAtFirst() {
        Check.sentence("Shelf", "All places are empty at first.");
        Run run = new Run();
        for (int row = 0; row < 3; row++) {
            for (int place = 0; place < 3; place++) {
                run.due(Check.NONE, "lying", row, place).due(Check.NONE, "takeOut", row, place);
            }
        }
        run.due(Check.NONE, "undo").due(0, "count", 0).due(0, "count", 1);
    }

    private static void whatARowTakes() {
        Check.sentence("Shelf", "There are three rows of 3 places each, numbered from 0, for copies of ships and berths: "
                + "row 0 takes ships, row 1 berths, row 2 both.");
        for (int row = 0; row < 3; row++) {
            for (int kind = 0; kind < 2; kind++) {
                Run run = Run.easy();
                boolean takes = row == 2 || row == kind;
                for (int place = 0; place < 3; place++) {
                    run.due(takes ? place + 1 : Check.UNLIKE, "layDown", row, place, kind, 0);
                }
                for (int place = 0; place < 9; place++) {
                    run.due(takes && place / 3 == row ? kind : Check.NONE, "lying", place / 3, place % 3);
                }
            }
        }
    }

    private static void placesOfLayDown() {
        Check.sentence("Promise 37", "`row`: the row, 0 to 2");
        Run.rich().due(2, "layDown", 0, 0, 0, 0).due(1, "layDown", 1, 0, 1, 0).due(2, "layDown", 2, 0, 0, 0);
        Check.sentence("Promise 37", "`place`: the place, 0 to 2");
        Run.rich().due(2, "layDown", 0, 0, 0, 0).due(2, "layDown", 0, 1, 0, 0).due(3, "layDown", 0, 2, 0, 0);
        Check.sentence("Promise 37", "NO_SUCH_ELEMENT if there is no such row or place (checked first)");
        noPlace(Run.rich(), "layDown", 2, 1, 0, 0);
        noPlace(Run.rich(), "layDown", 0, 1, 2, 0);
        noPlace(Run.rich(), "layDown", 0, 1, 1, 9);
    }

    private static void kinds() {
        Check.sentence("Promise 37", "`kind`: 0 for a ship, 1 for a berth");
        Run.rich().due(2, "layDown", 2, 0, 0, 0).due(0, "lying", 2, 0).due(2, "layDown", 2, 0, 1, 0).due(1, "lying", 2, 0);
        Check.sentence("Promise 37", "BAD_VALUE if there is no such kind (checked second)");
        Run.rich().refusedWith(Check.BAD, new int[] {-1, 2, 3, MIN, MAX}, 2, "layDown", 2, 1, 0, 0)
                .refusedWith(Check.BAD, new int[] {-1, 2, 3, MIN, MAX}, 2, "layDown", 0, 1, 0, 9);
    }

    private static void numbers() {
        Check.sentence("Promise 37", "NO_SUCH_ELEMENT if there is no such ship or berth (checked third)");
        int[] none = {-1, 2, 3, MIN, MAX};
        Run.rich().refusedWith(Check.NO_SUCH, none, 3, "layDown", 2, 1, 0, 0).refusedWith(Check.NO_SUCH, none, 3, "layDown", 2, 1, 1, 0);
        // also where the row would not take it
        Run.rich().refusedWith(Check.NO_SUCH, none, 3, "layDown", 0, 1, 1, 0).refusedWith(Check.NO_SUCH, none, 3, "layDown", 1, 0, 0, 0);
        Run.full().due(1, "layDown", 2, 0, 0, 3).due(2, "layDown", 2, 1, 1, 2).refused(Check.NO_SUCH, "layDown", 2, 2, 0, 4)
                .refused(Check.NO_SUCH, "layDown", 2, 2, 1, 3);
        // a ship that undo has taken away
        Run.easy().call("addShip", 60, 1, 10, 0).due(2, "undo").refused(Check.NO_SUCH, "layDown", 0, 0, 0, 1);
    }

    private static void unlike() {
        Check.sentence("Promise 37", "UNLIKE if the row does not take this.");
        Run run = Run.rich();
        for (int place = 0; place < 3; place++) {
            run.refused(Check.UNLIKE, "layDown", 0, place, 1, 0).refused(Check.UNLIKE, "layDown", 1, place, 0, 0);
        }
        run.due(0, "lying", 0, 1).due(1, "lying", 1, 0);
    }

    private static void filledPlaces() {
        Check.sentence("Promise 37", "Returns the number of filled places of the row");
        Run run = Run.easy().due(1, "layDown", 2, 2, 1, 0).due(2, "layDown", 2, 0, 0, 0).due(3, "layDown", 2, 1, 1, 0);
        run.due(3, "layDown", 2, 1, 0, 0).due(3, "layDown", 2, 2, 1, 0).due(1, "layDown", 0, 2, 0, 0).due(1, "layDown", 1, 0, 1, 0);
        run.due(1, "layDown", 0, 2, 0, 0).due(2, "layDown", 0, 0, 0, 0).due(3, "layDown", 0, 1, 0, 0);
    }

    private static void inPlaceOfAnother() {
        Check.sentence("Promise 37", "Lays a copy of a ship or berth down on the shelf, in place of what is there.");
        Run run = Run.rich().due(1, "layDown", 2, 2, 0, 1).due(0, "lying", 2, 2).due(2, "takeOut", 2, 2).due(150, "ship", 2, 0).due(60, "ship", 2, 3);
        run.due(1, "layDown", 2, 2, 1, 1).due(1, "lying", 2, 2).due(2, "takeOut", 2, 2).due(320, "berth", 2, 0).due(2, "berth", 2, 1);
        run.due(1, "layDown", 0, 1, 0, 0).due(3, "takeOut", 0, 1).due(100, "ship", 3, 0);
    }

    private static void copies() {
        Check.sentence("Promise 37", "a copy");
        // what is changed after it was laid down does not change the copy, and neither does a removal by undo or restore
        Run run = Run.easy().call("save").call("layDown", 1, 1, 1, 0).call("setBerth", 0, 999, 2).due(1, "takeOut", 1, 1);
        run.due(300, "berth", 1, 0).due(1, "berth", 1, 1).call("setBerth", 1, 5, 2).due(2, "takeOut", 1, 1).due(300, "berth", 2, 0);
        run.call("restore").due(1, "takeOut", 1, 1).due(300, "berth", 1, 0);
        Run extremes = new Run().call("addShip", 900, 4, 200, 99).call("addShip", 50, 1, 10, 0).call("addBerth", 999, 2).call("addBerth", 0, 1);
        extremes.call("layDown", 0, 0, 0, 0).call("layDown", 0, 2, 0, 1).call("layDown", 2, 0, 1, 0).call("layDown", 1, 2, 1, 1);
        extremes.due(2, "takeOut", 0, 0).due(3, "takeOut", 0, 2).due(2, "takeOut", 2, 0);
        extremes.dueRows("ship", new int[][] {{900, 2, 0}, {4, 2, 1}, {200, 2, 2}, {99, 2, 3}, {50, 3, 0}, {1, 3, 1}, {10, 3, 2}, {0, 3, 3}});
        extremes.due(999, "berth", 2, 0).due(2, "berth", 2, 1).due(5, "undo").due(2, "takeOut", 1, 2).due(0, "berth", 2, 0).due(1, "berth", 2, 1);
    }

    private static void placesOfTakeOut() {
        Check.sentence("Promise 38", "`row`: the row, 0 to 2");
        Run.rich().due(2, "takeOut", 0, 1).due(2, "takeOut", 1, 0).due(5, "undo").due(2, "takeOut", 2, 2).due(300, "berth", 2, 0);
        Check.sentence("Promise 38", "`place`: the place, 0 to 2");
        Run run = new Run();
        for (int place = 0; place < 3; place++) {
            run.due(place, "addShip", 60 + place, 1, 10, 0).due(place + 1, "layDown", 0, place, 0, place);
        }
        for (int place = 0; place < 3; place++) {
            run.due(3, "takeOut", 0, place).due(60 + place, "ship", 3, 0).due(3, "undo");
        }
        Check.sentence("Promise 38", "NO_SUCH_ELEMENT if there is no such row or place (checked first)");
        noPlace(Run.rich(), "takeOut", 0, 1);
        noPlace(Run.full(), "takeOut", 0, 0);
    }

    private static void emptyPlaces() {
        Check.sentence("Promise 38", "NONE if the place is empty (checked second)");
        Run.rich().refused(Check.NONE, "takeOut", 0, 0).refused(Check.NONE, "takeOut", 0, 2).refused(Check.NONE, "takeOut", 1, 1)
                .refused(Check.NONE, "takeOut", 2, 0).refused(Check.NONE, "takeOut", 2, 1);
        // also where there would be no room
        Run.full().refused(Check.NONE, "takeOut", 0, 1).refused(Check.NONE, "takeOut", 1, 0).refused(Check.NONE, "takeOut", 2, 0);
    }

    private static void fullPort() {
        Check.sentence("Promise 38", "FULL if there are 4 ships or 3 berths, as it may be.");
        Run.full().refused(Check.FULL, "takeOut", 0, 0).refused(Check.FULL, "takeOut", 1, 2);
        Run ships = Run.rich().due(2, "takeOut", 0, 1).due(3, "takeOut", 0, 1).refused(Check.FULL, "takeOut", 0, 1).due(4, "count", 0);
        ships.due(5, "undo").due(3, "takeOut", 0, 1).refused(Check.FULL, "takeOut", 0, 1);
        Run berths = Run.rich().due(2, "takeOut", 2, 2).refused(Check.FULL, "takeOut", 2, 2).refused(Check.FULL, "takeOut", 1, 0).due(3, "count", 1);
        berths.due(5, "undo").due(2, "takeOut", 1, 0).due(320, "berth", 2, 0);
    }

    private static void fullOfTheOtherKind() {
        Check.sentence("Promise 38", "as it may be");
        // four ships leave room for a berth, and three berths for a ship, on the row of both kinds
        Run run = Run.easy().call("layDown", 2, 0, 0, 0).call("layDown", 2, 1, 1, 0);
        Run ships = run.again().call("takeOut", 2, 0).call("takeOut", 2, 0).due(3, "takeOut", 2, 0).due(Check.FULL, "takeOut", 2, 0);
        ships.due(1, "takeOut", 2, 1).due(2, "takeOut", 2, 1).refused(Check.FULL, "takeOut", 2, 1);
        Run berths = run.again().call("takeOut", 2, 1).due(2, "takeOut", 2, 1).due(Check.FULL, "takeOut", 2, 1);
        berths.due(1, "takeOut", 2, 0).due(2, "takeOut", 2, 0).due(3, "takeOut", 2, 0).refused(Check.FULL, "takeOut", 2, 0);
    }

    private static void staysOnTheShelf() {
        Check.sentence("Promise 38", "It stays on the shelf.");
        Run run = Run.rich().due(2, "takeOut", 0, 1).due(0, "lying", 0, 1).due(3, "takeOut", 0, 1).due(0, "lying", 0, 1);
        run.due(Check.FULL, "takeOut", 0, 1).due(0, "lying", 0, 1).due(5, "undo").due(0, "lying", 0, 1).due(3, "takeOut", 0, 1);
        run.due(150, "ship", 3, 0).due(2, "layDown", 0, 0, 0, 0);
    }

    private static void placesOfLying() {
        Check.sentence("Promise 39", "`row`: the row, 0 to 2");
        Run.rich().due(0, "lying", 0, 1).due(1, "lying", 1, 0).due(1, "lying", 2, 2);
        Check.sentence("Promise 39", "Returns 0 for a ship, 1 for a berth");
        Run.full().due(0, "lying", 0, 0).due(1, "lying", 1, 2);
        Check.sentence("Promise 39", "`place`: the place, 0 to 2");
        Run run = Run.easy().call("layDown", 2, 0, 0, 0).call("layDown", 2, 1, 1, 0).call("layDown", 2, 2, 0, 0);
        run.due(0, "lying", 2, 0).due(1, "lying", 2, 1).due(0, "lying", 2, 2);
        Check.sentence("Promise 39", "NO_SUCH_ELEMENT if there is no such row or place (checked first)");
        noPlace(Run.rich(), "lying", 0, 1);
        noPlace(new Run(), "lying", 0, 1);
        Check.sentence("Promise 39", "NONE if the place is empty.");
        Run.rich().refused(Check.NONE, "lying", 0, 0).refused(Check.NONE, "lying", 0, 2).refused(Check.NONE, "lying", 1, 1)
                .refused(Check.NONE, "lying", 1, 2).refused(Check.NONE, "lying", 2, 0).refused(Check.NONE, "lying", 2, 1);
        // what a refused layDown would have laid there is not there
        Run.easy().due(Check.UNLIKE, "layDown", 0, 0, 1, 0).due(Check.NONE, "lying", 0, 0).due(Check.BAD, "layDown", 2, 0, 2, 0).due(Check.NONE, "lying", 2, 0);
    }
}
