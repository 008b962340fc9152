import java.lang.reflect.InvocationTargetException;
import java.lang.reflect.Method;
import java.util.ArrayList;
import java.util.HashMap;
import java.util.List;
import java.util.Map;
import java.util.Random;

/** Random runs of at most 512 calls, each answered by FerryTimetable and by Oracle. The seeds are fixed. */
public final class RandomRunsTest {
    private static final int RUNS = 1500;
    private static final int CALLS = 512;
    private static final Map<String, Method> REAL = methodsOf(FerryTimetable.class);
    private static final Map<String, Method> DUE = methodsOf(Oracle.class);
    private static final int[] WILD = {Integer.MIN_VALUE, -10004, -1000, -1, 0, 1, 3, 13, 25, 100, 2881, Integer.MAX_VALUE};

    private final FerryTimetable real = new FerryTimetable();
    private final Oracle due = new Oracle();
    private final List<String> said = new ArrayList<>();
    private final Random random;
    private final int run;
    private final int span;
    private final int roughness;
    private final boolean longLanes;
    private boolean wrong = false;

    private RandomRunsTest(int run) {
        this.run = run;
        random = new Random(run);
        span = new int[] {400, 1000, 2800}[random.nextInt(3)];
        roughness = random.nextInt(4);
        longLanes = random.nextInt(3) == 0;
    }

    private static Map<String, Method> methodsOf(Class<?> type) {
        Map<String, Method> map = new HashMap<>();
        for (Method method : type.getDeclaredMethods()) {
            if (java.lang.reflect.Modifier.isPublic(method.getModifiers())) {
                method.setAccessible(true);
                map.put(method.getName(), method);
            }
        }
        return map;
    }

    public static void main(String[] args) {
        int runs = args.length > 0 ? Integer.parseInt(args[0]) : RUNS;
        int wrongRuns = 0;
        for (int run = 0; run < runs; run++) {
            RandomRunsTest test = new RandomRunsTest(run);
            test.play();
            wrongRuns += test.wrong ? 1 : 0;
        }
        System.out.println(runs + " random runs, " + wrongRuns + " with a wrong answer");
        if (wrongRuns != 0) {
            System.exit(1);
        }
    }

    private void call(String name, int... numbers) {
        if (wrong || said.size() >= CALLS) {
            return;
        }
        Object[] arguments = new Object[numbers.length];
        StringBuilder shown = new StringBuilder(name).append("(");
        for (int i = 0; i < numbers.length; i++) {
            arguments[i] = numbers[i];
            shown.append(i == 0 ? "" : ", ").append(numbers[i]);
        }
        Object got = answer(REAL.get(name), real, arguments);
        Object want = answer(DUE.get(name), due, arguments);
        said.add(shown.append(") ").append(got).toString());
        if (!want.equals(got)) {
            wrong = true;
            System.out.println("run " + run + ", due is " + want + " at the end of:");
            for (String row : said) {
                System.out.println("  " + row);
            }
        }
    }

    private static Object answer(Method method, Object target, Object[] arguments) {
        try {
            return method.invoke(target, arguments);
        } catch (InvocationTargetException thrown) {
            return thrown.getCause().toString();
        } catch (IllegalAccessException hidden) {
            return hidden.toString();
        }
    }

    private int in(int low, int high) {
        return random.nextInt(60) == 0 ? WILD[random.nextInt(WILD.length)] : low + random.nextInt(high - low + 1);
    }

    /** A number of an element, mostly of one that is there. */
    private int some(int what) {
        return in(0, Math.max(0, due.count(what) - (random.nextInt(20) == 0 ? 0 : 1)));
    }

    /** In every third run as many as there may be, and one more. */
    private int howMany(int least, int most) {
        return run % 3 == 0 ? most + 1 : least + random.nextInt(most - least + 1);
    }

    private void play() {
        for (int i = howMany(1, 4); i > 0; i--) {
            addShip();
        }
        for (int i = howMany(1, 3); i > 0; i--) {
            call("addBerth", in(250, 500), in(1, 2));
        }
        for (int i = 0; i < roughness * 12; i++) {
            setWeather();
        }
        for (int i = howMany(3, 12); i > 0; i--) {
            addCrossing();
        }
        for (int i = howMany(0, 24); i > 0; i--) {
            addVehicle();
        }
        for (int i = howMany(0, 8); i > 0; i--) {
            addConnection();
        }
        tellAll();
        while (!wrong && said.size() < CALLS) {
            if (random.nextInt(4) == 0) {
                change();
            } else {
                ask();
            }
        }
    }

    private void addShip() {
        call("addShip", in(50, 240), in(1, 4), longLanes ? in(40, 200) : in(10, 40), in(20, 99));
    }

    private void addCrossing() {
        int arrival = random.nextInt(span);
        int departure = random.nextInt(4) == 0 ? (arrival / 60 + 1) * 60 : arrival + in(1, random.nextInt(3) == 0 ? 301 : 90);
        call("addCrossing", some(0), some(1), arrival, Math.min(departure, 2801));
    }

    private void addVehicle() {
        call("addVehicle", some(2), in(3, random.nextBoolean() ? 12 : 30), in(0, 5));
    }

    private void addConnection() {
        int crossing = some(2);
        int departure = Math.max(30, due.crossing(crossing, 3));
        call("addConnection", crossing, departure - 20 + random.nextInt(60), in(0, 60), in(1, 999));
    }

    private void setWeather() {
        int hours = span / 60 + 1;
        if (random.nextBoolean()) {
            call("setTide", in(0, hours), in(-60 * roughness, 100));
        } else {
            call("setWind", in(0, hours), in(0, 25 * roughness));
        }
    }

    private void tellAll() {
        for (int c = 0; c < due.count(2); c++) {
            call("crossing", c, 4 + random.nextInt(3));
            call("crossing", c, 7 + random.nextInt(3));
            call("bestBerth", c);
        }
        for (int v = 0; v < due.count(3); v++) {
            call("vehicle", v, 3 + random.nextInt(4));
        }
        for (int k = 0; k < due.count(4); k++) {
            call("connection", k, 4);
        }
        for (int what = 0; what < 10; what++) {
            call("account", what);
        }
        call("loadBits");
        call("isOrderly");
    }

    private void change() {
        switch (random.nextInt(20)) {
            case 16, 17 -> addCrossing();
            case 18 -> addVehicle();
            case 19 -> addConnection();
            case 0 -> addShip();
            case 1 -> call("addBerth", in(250, 500), in(1, 2));
            case 2, 3 -> addCrossing();
            case 4 -> addVehicle();
            case 5 -> addConnection();
            case 6 -> call("removeCrossing", in(0, 20));
            case 7 -> call("setBerth", some(1), in(150, 500), in(1, 2));
            case 8 -> setWeather();
            case 9 -> call("setMargin", in(0, 200));
            case 10, 11 -> readText();
            case 12 -> undoSome();
            case 13 -> call("takeOut", in(0, 2), in(0, 2));
            case 14 -> call("layDown", in(0, 2), in(0, 2), in(0, 1), in(0, 2));
            default -> call(random.nextInt(3) == 0 ? "restore" : "save");
        }
    }

    private void undoSome() {
        int times = random.nextInt(4) == 0 ? 1 + random.nextInt(7) : 1;
        for (int i = 0; i < times; i++) {
            call("undo");
        }
    }

    private void readText() {
        StringBuilder text = new StringBuilder();
        int entries = 1 + random.nextInt(5);
        for (int i = 0; i < entries; i++) {
            text.append(i == 0 ? "" : ";").append(entry());
        }
        if (random.nextInt(4) == 0 && text.length() > 0) {
            int at = random.nextInt(text.length());
            String signs = "cvtw,;=-0123456789x+ ";
            switch (random.nextInt(3)) {
                case 0 -> text.setLength(at);
                case 1 -> text.setCharAt(at, signs.charAt(random.nextInt(signs.length())));
                default -> text.insert(at, signs.charAt(random.nextInt(signs.length())));
            }
        }
        int pack = random.nextInt(3) == 0 ? 1 + random.nextInt(4) : 4;
        for (int i = 0; i < text.length(); i += pack) {
            call("append", Check.packed(text.substring(i, Math.min(i + pack, text.length()))) << 8 * random.nextInt(5 - pack));
        }
        if (random.nextInt(8) != 0) {
            call("read");
        }
        call("count", 5);
        call("faultPosition");
    }

    private String entry() {
        switch (random.nextInt(4)) {
            case 0:
                int arrival = random.nextInt(span);
                return "c" + some(0) % 10000 + "," + some(1) % 10000 + "," + arrival + "," + (arrival + random.nextInt(120));
            case 1:
                return "v" + some(2) % 10000 + "," + (2 + random.nextInt(20)) + ",0" + random.nextInt(6);
            case 2:
                return "t" + random.nextInt(49) + "=" + (random.nextInt(400) - 300);
            default:
                return "w" + random.nextInt(49) + "=00" + random.nextInt(70);
        }
    }

    private void ask() {
        switch (random.nextInt(25)) {
            case 0 -> call("count", in(0, 6));
            case 1 -> call("ship", some(0), in(0, 4));
            case 2 -> call("berth", some(1), in(0, 2));
            case 3, 4 -> call("crossing", some(2), in(0, 9));
            case 5 -> call("decided", some(2));
            case 6, 7 -> call("vehicle", some(3), in(0, 6));
            case 8 -> call("connection", some(4), in(0, 4));
            case 9 -> call("tide", in(0, 48));
            case 10 -> call("wind", in(0, 47));
            case 11 -> call("height", in(0, span));
            case 12 -> call("heightBits", in(0, span));
            case 13 -> call("water", some(1), in(0, span));
            case 14 -> call("firstTime", some(1), some(0), in(0, span));
            case 15 -> call("laneLeft", some(2), in(0, 3));
            case 16 -> call("laneVehicle", some(2), in(0, 3), in(0, 3));
            case 17, 18 -> call("leaves", some(2), in(0, 8));
            case 19 -> call("isOrderly");
            case 20 -> call("account", in(0, 9));
            case 21 -> call("loadBits");
            case 22 -> call("sailingIf", in(0, 200));
            case 23 -> call("bestBerth", some(2));
            default -> call("lying", in(0, 2), in(0, 2));
        }
    }
}
