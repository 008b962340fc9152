import java.lang.reflect.Constructor;
import java.lang.reflect.Field;
import java.lang.reflect.Method;
import java.lang.reflect.Modifier;
import java.util.HashSet;
import java.util.Set;
import java.util.TreeSet;

/** The public face as the document prints it, and rules 1, 2 and 11 of the language as far as reflection shows them. */
public final class FaceTest {
    private static final String[] METHODS = {
        "addShip 4", "addBerth 2", "addCrossing 4", "addVehicle 3", "addConnection 4", "removeCrossing 1",
        "setBerth 3", "setTide 2", "setWind 2", "setMargin 1", "append 1", "read 0", "faultPosition 0", "undo 0",
        "count 1", "ship 2", "berth 2", "crossing 2", "decided 1", "vehicle 2", "connection 2", "tide 1", "wind 1",
        "height 1", "heightBits 1", "water 2", "firstTime 3", "laneLeft 2", "laneVehicle 3", "leaves 2",
        "isOrderly 0", "account 1", "loadBits 0", "sailingIf 1", "bestBerth 1", "layDown 4", "takeOut 2", "lying 2",
        "save 0", "restore 0"};
    private static final String[] CONSTANTS = {"NO_SUCH_ELEMENT", "BAD_VALUE", "FULL", "NONE", "STATE", "UNLIKE"};

    private FaceTest() {
    }

    public static void main(String[] args) throws ReflectiveOperationException {
        Class<?> face = FerryTimetable.class;
        Check.part("The class");
        Check.due("its modifiers", Modifier.PUBLIC | Modifier.FINAL, face.getModifiers());
        Check.due("its constructors", 1, face.getDeclaredConstructors().length);
        for (Constructor<?> constructor : face.getDeclaredConstructors()) {
            Check.holds("public FerryTimetable()", Modifier.isPublic(constructor.getModifiers())
                    && constructor.getParameterCount() == 0);
        }
        methods(face);
        constants(face);
        nested(face);
        Check.finish();
    }

    private static void methods(Class<?> face) {
        Check.part("The methods");
        Set<String> due = new TreeSet<>(Set.of(METHODS));
        Set<String> names = new HashSet<>();
        for (String row : METHODS) {
            names.add(row.substring(0, row.indexOf(' ')));
        }
        Set<String> found = new TreeSet<>();
        for (Method method : face.getDeclaredMethods()) {
            int modifiers = method.getModifiers();
            if (Modifier.isPublic(modifiers)) {
                found.add(method.getName() + " " + method.getParameterCount());
                Check.holds(method + " returns int", method.getReturnType() == int.class);
                Check.holds(method + " is no static one", !Modifier.isStatic(modifiers));
                for (Class<?> type : method.getParameterTypes()) {
                    Check.holds(method + " takes ints", type == int.class);
                }
            } else {
                Check.holds(method + " is private", Modifier.isPrivate(modifiers));
                Check.holds(method + " has a name of its own", !names.contains(method.getName()));
            }
        }
        Check.holds("the public methods are " + due + ", not " + found, due.equals(found));
    }

    private static void constants(Class<?> face) throws ReflectiveOperationException {
        Check.sentence("Error codes", "The constants: `NO_SUCH_ELEMENT = -10001`");
        int value = -10001;
        Set<String> names = Set.of(CONSTANTS);
        for (String name : CONSTANTS) {
            Field field = face.getDeclaredField(name);
            Check.due(name + "'s modifiers", Modifier.PUBLIC | Modifier.STATIC | Modifier.FINAL, field.getModifiers());
            Check.due(name, value, field.getInt(null));
            value--;
        }
        for (Field field : face.getDeclaredFields()) {
            Check.holds(field + " is private", names.contains(field.getName()) || Modifier.isPrivate(field.getModifiers()));
        }
    }

    private static void nested(Class<?> face) {
        Check.part("The classes inside");
        Check.holds("there are at most 12 classes", face.getDeclaredClasses().length < 12);
        fields(face);
        for (Class<?> inside : face.getDeclaredClasses()) {
            Check.holds(inside + " is static", Modifier.isStatic(inside.getModifiers()));
            Check.holds(inside + " is not public", !Modifier.isPublic(inside.getModifiers())
                    && !Modifier.isProtected(inside.getModifiers()));
            fields(inside);
            for (Method method : inside.getDeclaredMethods()) {
                Check.holds(method + " has at most seven parameters", method.getParameterCount() <= 7);
            }
        }
    }

    private static void fields(Class<?> type) {
        int fields = 0;
        for (Field field : type.getDeclaredFields()) {
            boolean isStatic = Modifier.isStatic(field.getModifiers());
            Check.holds(field + " is final if it is static", !isStatic || Modifier.isFinal(field.getModifiers()));
            fields += isStatic ? 0 : 1;
        }
        Check.holds(type + " has at most 20 fields", fields <= 20);
    }
}
