import java.util.ArrayList;
import java.util.List;

/** What can be seen of an object afterwards. Each of them stays under 512 calls, so that a run has one alone. */
enum Aftermath {
    /** All that was added or set. */
    DATA {
        @Override
        void show(Run run, List<Integer> said) {
            int[] counts = counts(run, said);
            elements(run, said, "ship", counts[0], 0, 3);
            elements(run, said, "berth", counts[1], 0, 1);
            elements(run, said, "crossing", counts[2], 0, 3);
            elements(run, said, "vehicle", counts[3], 0, 2);
            elements(run, said, "connection", counts[4], 0, 3);
            for (int hour = 0; hour <= 48; hour++) {
                said.add(run.ask("tide", hour));
                said.add(run.ask("wind", hour));
            }
        }
    },

    /** What is decided and loaded. */
    RESULTS {
        @Override
        void show(Run run, List<Integer> said) {
            int[] counts = counts(run, said);
            elements(run, said, "ship", counts[0], 4, 4);
            elements(run, said, "berth", counts[1], 2, 2);
            elements(run, said, "crossing", counts[2], 4, 9);
            elements(run, said, "vehicle", counts[3], 3, 6);
            elements(run, said, "connection", counts[4], 4, 4);
            for (int crossing = 0; crossing < counts[2]; crossing++) {
                said.add(run.ask("decided", crossing));
                said.add(run.ask("laneLeft", crossing, 0));
                said.add(run.ask("laneVehicle", crossing, 0, 0));
                said.add(run.ask("leaves", crossing, 0));
                said.add(run.ask("bestBerth", crossing));
            }
            for (int what = 0; what <= 9; what++) {
                said.add(run.ask("account", what));
            }
            said.add(run.ask("loadBits"));
            said.add(run.ask("isOrderly"));
            said.add(run.ask("sailingIf", 0));
            said.add(run.ask("sailingIf", 200));
            said.add(run.ask("height", 90));
            said.add(run.ask("heightBits", 90));
        }
    },

    /** What undo brings back, until there is no change left. */
    UNDONE {
        @Override
        void show(Run run, List<Integer> said) {
            for (int i = 0; i < 7; i++) {
                said.add(run.ask("undo"));
                counts(run, said);
            }
            DATA.show(run, said);
        }
    },

    /** What lies on the shelf, and copies of it. Some changes are undone before, to have room for them. */
    SHELF {
        @Override
        void show(Run run, List<Integer> said) {
            for (int place = 0; place < 9; place++) {
                said.add(run.ask("lying", place / 3, place % 3));
            }
            said.add(run.ask("undo"));
            said.add(run.ask("undo"));
            for (int place = 0; place < 9; place++) {
                said.add(run.ask("takeOut", place / 3, place % 3));
            }
            int[] counts = counts(run, said);
            elements(run, said, "ship", counts[0], 0, 3);
            elements(run, said, "berth", counts[1], 0, 1);
        }
    },

    /** What restore brings back. */
    SAVED {
        @Override
        void show(Run run, List<Integer> said) {
            said.add(run.ask("restore"));
            DATA.show(run, said);
            said.add(run.ask("undo"));
        }
    },

    /** What further changes answer and do. */
    MORE {
        @Override
        void show(Run run, List<Integer> said) {
            said.add(run.ask("addShip", 77, 3, 33, 22));
            said.add(run.ask("addBerth", 222, 2));
            said.add(run.ask("addCrossing", 0, 0, 1000, 1100));
            said.add(run.ask("addVehicle", 0, 7, 1));
            said.add(run.ask("addConnection", 0, 995, 9, 9));
            said.add(run.ask("setBerth", 0, 280, 2));
            said.add(run.ask("setTide", 4, 44));
            said.add(run.ask("setWind", 4, 44));
            said.add(run.ask("setMargin", 44));
            said.add(run.ask("layDown", 2, 0, 0, 0));
            said.add(run.ask("takeOut", 2, 0));
            said.add(run.ask("removeCrossing", 0));
            said.add(run.ask("undo"));
            DATA.show(run, said);
        }
    },

    /** The text, the fault position, and how the text goes on. */
    TEXT {
        @Override
        void show(Run run, List<Integer> said) {
            said.add(run.ask("count", 5));
            said.add(run.ask("faultPosition"));
            said.add(run.ask("append", '1'));
            said.add(run.ask("read"));
            said.add(run.ask("faultPosition"));
            said.add(run.ask("count", 5));
            DATA.show(run, said);
        }
    };

    abstract void show(Run run, List<Integer> said);

    List<Integer> shown(Run run) {
        List<Integer> said = new ArrayList<>();
        show(run, said);
        return said;
    }

    /** All counts but that of the characters, which TEXT looks at. */
    private static int[] counts(Run run, List<Integer> said) {
        int[] counts = new int[7];
        for (int what = 0; what <= 6; what++) {
            if (what != 5) {
                counts[what] = run.ask("count", what);
                said.add(counts[what]);
            }
        }
        return counts;
    }

    private static void elements(Run run, List<Integer> said, String name, int many, int first, int last) {
        for (int i = 0; i < many; i++) {
            for (int what = first; what <= last; what++) {
                said.add(run.ask(name, i, what));
            }
        }
    }
}
