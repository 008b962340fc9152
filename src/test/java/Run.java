import java.lang.reflect.InvocationTargetException;
import java.lang.reflect.Method;
import java.lang.reflect.Modifier;
import java.util.ArrayList;
import java.util.Arrays;
import java.util.HashMap;
import java.util.List;
import java.util.Map;

/**
 * Calls on one object, each of them kept, so that the same run can be made again on another object.
 * That shows what a refused call has left: a run with it and a run without it must answer alike.
 */
final class Run {
    /** Nothing is promised after the 512th call of an object, so that no test may rest on more. */
    static final int MOST_CALLS = 512;

    private static final Map<String, Method> METHODS = new HashMap<>();

    static {
        for (Method method : FerryTimetable.class.getDeclaredMethods()) {
            if (Modifier.isPublic(method.getModifiers())) {
                METHODS.put(method.getName(), method);
            }
        }
    }

    private final FerryTimetable x = new FerryTimetable();
    private final List<String> names = new ArrayList<>();
    private final List<int[]> numbers = new ArrayList<>();

    /** One ship and one berth that go together. */
    static Run easy() {
        return new Run().call("addShip", 100, 2, 20, 50).call("addBerth", 300, 1);
    }

    /**
     * Something of everything: crossings that sail and one that does not, vehicles that are shifted and
     * left behind, all three kinds of connections, a text, a fault position, a shelf, a copy that was
     * saved and is another one by now, and more than six changes.
     */
    static Run rich() {
        Run run = easy().call("addShip", 150, 1, 40, 60).call("addBerth", 320, 2);
        run.call("addCrossing", 0, 0, 30, 60).call("addCrossing", 1, 1, 70, 130);
        run.call("addCrossing", 0, 0, 40, 90).call("addCrossing", 0, 1, 150, 200);
        run.call("addVehicle", 0, 12, 2).call("addVehicle", 0, 9, 1).call("addVehicle", 2, 10, 3);
        run.call("addVehicle", 1, 30, 0).call("addVehicle", 3, 15, 4).call("addVehicle", 0, 10, 5);
        run.call("addVehicle", 3, 25, 4);
        run.call("addConnection", 0, 45, 10, 40).call("addConnection", 3, 195, 20, 7);
        run.call("addConnection", 1, 150, 5, 9);
        run.call("setTide", 2, 15).call("setTide", 3, -20).call("setWind", 2, 30);
        run.call("save");
        run.call("layDown", 0, 1, 0, 1).call("layDown", 2, 2, 1, 0).call("layDown", 1, 0, 1, 1);
        run.text("t3=x").call("read");
        run.call("setMargin", 60).call("setTide", 1, 10).call("setWind", 1, 5);
        return run.text("t5=7");
    }

    /** As many elements of each kind as there may be. */
    static Run full() {
        Run run = new Run().call("save");
        for (int i = 0; i < 4; i++) {
            run.call("addShip", 100 + i, 1 + i, 20, 50);
        }
        for (int i = 0; i < 3; i++) {
            run.call("addBerth", 300 + i, 1 + i % 2);
        }
        for (int i = 0; i < 12; i++) {
            run.call("addCrossing", i % 4, i % 3, 100 * i, 100 * i + 90);
        }
        for (int i = 0; i < 24; i++) {
            run.call("addVehicle", i % 12, 3 + i, i % 6);
        }
        for (int i = 0; i < 8; i++) {
            run.call("addConnection", i, 100 * i + 78 + i, 5, 5 + i);
        }
        return run.call("layDown", 0, 0, 0, 3).call("layDown", 1, 2, 1, 2).text("w9=8");
    }

    int ask(String name, int... arguments) {
        if (names.size() >= MOST_CALLS) {
            throw new IllegalStateException("a test makes more than 512 calls");
        }
        names.add(name);
        numbers.add(arguments.clone());
        Method method = METHODS.get(name);
        Object[] boxed = Arrays.stream(arguments).boxed().toArray();
        try {
            return (Integer) method.invoke(x, boxed);
        } catch (InvocationTargetException thrown) {
            throw new IllegalStateException(shown(name, arguments) + " throws", thrown.getCause());
        } catch (IllegalAccessException hidden) {
            throw new IllegalStateException(hidden);
        }
    }

    Run call(String name, int... arguments) {
        ask(name, arguments);
        return this;
    }

    Run due(int want, String name, int... arguments) {
        Check.due(shown(name, arguments), want, ask(name, arguments));
        return this;
    }

    /** The call of one row of numbers: the answer that is due, and then the arguments. */
    Run dueRows(String name, int[]... rows) {
        for (int[] row : rows) {
            due(row[0], name, Arrays.copyOfRange(row, 1, row.length));
        }
        return this;
    }

    Run text(String text) {
        for (int i = 0; i < text.length(); i += 4) {
            call("append", Check.packed(text.substring(i, Math.min(i + 4, text.length()))));
        }
        return this;
    }

    /** The same calls on a new object. */
    Run again() {
        Run other = new Run();
        for (int i = 0; i < names.size(); i++) {
            other.call(names.get(i), numbers.get(i));
        }
        return other;
    }

    int calls() {
        return names.size();
    }

    /** The call is refused, and nothing is different afterwards. */
    Run refused(int code, String name, int... arguments) {
        for (Aftermath aftermath : Aftermath.values()) {
            leaves(aftermath, code, name, arguments);
        }
        return due(code, name, arguments);
    }

    /** As refused, for read, which changes the text and the fault position also if it is refused. */
    Run refusedRead(int code, int faultPosition) {
        for (Aftermath aftermath : Aftermath.values()) {
            if (aftermath != Aftermath.TEXT) {
                leaves(aftermath, code, "read");
            }
        }
        again().due(code, "read").due(0, "count", 5).due(faultPosition, "faultPosition")
                .text("t8=-77").due(1, "read").due(-77, "tide", 8).due(Check.NONE, "faultPosition");
        return due(code, "read").due(faultPosition, "faultPosition").due(0, "count", 5);
    }

    private void leaves(Aftermath aftermath, int code, String name, int... arguments) {
        Run without = again();
        Run with = again().due(code, name, arguments);
        Check.holds(aftermath + " is as it was before " + shown(name, arguments),
                aftermath.shown(without).equals(aftermath.shown(with)));
    }

    /** Refused with each of these values in the place of one argument. */
    Run refusedWith(int code, int[] values, int place, String name, int... arguments) {
        for (int value : values) {
            again().refused(code, name, replaced(arguments, place, value));
        }
        return this;
    }

    /** Both ends of the range of one argument are taken, and what lies beyond them is refused. */
    Run range(int code, int low, int high, int place, String name, int... arguments) {
        for (int value : new int[] {low, low + 1, high - 1, high}) {
            int[] all = replaced(arguments, place, value);
            Check.holds(shown(name, all) + " is not refused", !Check.isError(again().ask(name, all)));
        }
        return refusedWith(code, beyond(low, high), place, name, arguments);
    }

    static int[] beyond(int low, int high) {
        return new int[] {low - 1, high + 1, Integer.MIN_VALUE, Integer.MAX_VALUE};
    }

    private static int[] replaced(int[] arguments, int place, int value) {
        int[] other = arguments.clone();
        other[place] = value;
        return other;
    }

    private static String shown(String name, int[] arguments) {
        return name + Arrays.toString(arguments).replace('[', '(').replace(']', ')');
    }
}
