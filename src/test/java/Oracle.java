import java.util.ArrayDeque;
import java.util.ArrayList;
import java.util.Arrays;
import java.util.Comparator;
import java.util.Deque;
import java.util.List;
import java.util.regex.Matcher;
import java.util.regex.Pattern;

/**
 * The document a second time, written another way and with the Java library, to be compared with
 * FerryTimetable in random runs. It has the same calls and makes objects freely.
 */
final class Oracle {
    static final int NO_SUCH_ELEMENT = -10001;
    static final int BAD_VALUE = -10002;
    static final int FULL = -10003;
    static final int NONE = -10004;
    static final int STATE = -10005;
    static final int UNLIKE = -10006;

    /** Everything that save and undo keep; each element is an array of its numbers. */
    static final class Data {
        List<int[]> ships = new ArrayList<>();
        List<int[]> berths = new ArrayList<>();
        List<int[]> crossings = new ArrayList<>();
        List<int[]> vehicles = new ArrayList<>();
        List<int[]> connections = new ArrayList<>();
        int[] tides = new int[49];
        int[] winds = new int[48];
        int margin = 50;

        Data copy() {
            Data d = new Data();
            d.ships = copyOf(ships);
            d.berths = copyOf(berths);
            d.crossings = copyOf(crossings);
            d.vehicles = copyOf(vehicles);
            d.connections = copyOf(connections);
            d.tides = tides.clone();
            d.winds = winds.clone();
            d.margin = margin;
            return d;
        }

        private static List<int[]> copyOf(List<int[]> list) {
            List<int[]> copy = new ArrayList<>();
            for (int[] element : list) {
                copy.add(element.clone());
            }
            return copy;
        }

        float floatHeight(int t) {
            int h = t / 60;
            float a = tides[h];
            float b = tides[h + 1];
            return a + (b - a) * ((t - 60 * h) / 60.0f);
        }

        int water(int berth, int t) {
            return berths.get(berth)[0] + (int) floatHeight(t);
        }

        int need(int ship) {
            return ships.get(ship)[0] + margin;
        }
    }

    /** What follows from the data. */
    static final class Plan {
        final Data d;
        final List<Integer> order = new ArrayList<>();
        final int[] reason;
        final int[] detail;
        final int[] delay;
        final int[] fate;
        final int[] shifts;
        final List<List<Integer>> waiting = new ArrayList<>();
        final List<List<List<Integer>>> lanes = new ArrayList<>();

        Plan(Data d) {
            this.d = d;
            int n = d.crossings.size();
            reason = new int[n];
            detail = new int[n];
            delay = new int[n];
            fate = new int[d.connections.size()];
            shifts = new int[d.vehicles.size()];
            for (int c = 0; c < n; c++) {
                order.add(c);
                waiting.add(new ArrayList<>());
                List<List<Integer>> empty = new ArrayList<>();
                for (int l = 0; l < d.ships.get(d.crossings.get(c)[0])[1]; l++) {
                    empty.add(new ArrayList<>());
                }
                lanes.add(empty);
            }
            order.sort(Comparator.comparingInt((Integer c) -> d.crossings.get(c)[3]).thenComparingInt(c -> c));
            decideAll();
            loadAll();
        }

        private void decideAll() {
            List<Integer> sailing = new ArrayList<>();
            for (int c : order) {
                int[] x = d.crossings.get(c);
                int[] ship = d.ships.get(x[0]);
                detail[c] = NONE;
                if (d.winds[x[3] / 60] > ship[3]) {
                    reason[c] = 1;
                    detail[c] = d.winds[x[3] / 60];
                }
                for (int t = x[2]; t <= x[3] && reason[c] == 0; t++) {
                    boolean looked = t == x[2] || t == x[3] || t % 60 == 0;
                    if (looked && d.water(x[1], t) < d.need(x[0])) {
                        reason[c] = 2;
                        detail[c] = t;
                    }
                }
                for (int column = 1; column >= 0; column--) {
                    for (int other : sailing) {
                        if (reason[c] == 0 && d.crossings.get(other)[column] == x[column] && meet(c, other)) {
                            reason[c] = column == 1 ? 3 : 4;
                            detail[c] = other;
                        }
                    }
                }
                if (reason[c] == 0) {
                    sailing.add(c);
                }
                connect(c);
            }
        }

        private boolean meet(int c, int other) {
            int[] x = d.crossings.get(c);
            int[] y = d.crossings.get(other);
            boolean[] busy = new boolean[4000];
            for (int t = y[2]; t < y[3] + delay[other]; t++) {
                busy[t] = true;
            }
            for (int t = x[2]; t < x[3]; t++) {
                if (busy[t]) {
                    return true;
                }
            }
            return false;
        }

        private void connect(int c) {
            int[] x = d.crossings.get(c);
            for (int k = 0; k < fate.length; k++) {
                int[] link = d.connections.get(k);
                if (link[0] != c) {
                    continue;
                }
                int ready = link[1] + 10;
                fate[k] = 2;
                if (reason[c] == 0 && ready <= x[3]) {
                    fate[k] = 0;
                } else if (reason[c] == 0 && ready <= x[3] + link[2]
                        && d.winds[ready / 60] <= d.ships.get(x[0])[3]
                        && d.water(x[1], ready) >= d.need(x[0])) {
                    fate[k] = 1;
                    delay[c] = Math.max(delay[c], ready - x[3]);
                }
            }
        }

        private void loadAll() {
            List<int[]> shifted = new ArrayList<>();
            for (int p = 0; p < order.size(); p++) {
                int c = order.get(p);
                for (int v = 0; v < d.vehicles.size(); v++) {
                    if (d.vehicles.get(v)[0] == c) {
                        waiting.get(c).add(v);
                    }
                }
                for (int[] shift : shifted) {
                    if (shift[1] == c) {
                        waiting.get(c).add(shift[0]);
                    }
                }
                for (int v : waiting.get(c)) {
                    if (reason[c] == 0 && load(c, v)) {
                        continue;
                    }
                    for (int q = p + 1; q < order.size(); q++) {
                        int target = order.get(q);
                        if (reason[target] == 0 && d.crossings.get(target)[3] > d.crossings.get(c)[3]) {
                            shifts[v]++;
                            shifted.add(new int[] {v, target});
                            break;
                        }
                    }
                }
            }
        }

        int left(int c, int l) {
            int left = d.ships.get(d.crossings.get(c)[0])[2];
            for (int v : lanes.get(c).get(l)) {
                left -= d.vehicles.get(v)[1];
            }
            return left;
        }

        private boolean load(int c, int v) {
            List<Integer> good = new ArrayList<>();
            int ramps = d.berths.get(d.crossings.get(c)[1])[1];
            int port = d.vehicles.get(v)[2];
            for (int l = 0; l < lanes.get(c).size(); l++) {
                List<Integer> lane = lanes.get(c).get(l);
                boolean fits = left(c, l) >= d.vehicles.get(v)[1];
                if (!lane.isEmpty()) {
                    int last = d.vehicles.get(lane.get(lane.size() - 1))[2];
                    fits &= ramps == 1 ? port <= last : port >= last;
                }
                if (fits) {
                    good.add(l);
                }
            }
            if (good.isEmpty()) {
                return false;
            }
            good.sort(Comparator.comparingInt((Integer l) -> left(c, l)).thenComparingInt(l -> l));
            lanes.get(c).get(good.get(0)).add(v);
            return true;
        }

        int sailing() {
            return (int) Arrays.stream(reason).filter(r -> r == 0).count();
        }

        /** Crossing, lane and place of a vehicle, or null. */
        int[] placeOf(int v) {
            for (int c = 0; c < lanes.size(); c++) {
                for (int l = 0; l < lanes.get(c).size(); l++) {
                    int i = lanes.get(c).get(l).indexOf(v);
                    if (i >= 0) {
                        return new int[] {c, l, i};
                    }
                }
            }
            return null;
        }

        int aboard(int c) {
            int sum = 0;
            for (List<Integer> lane : lanes.get(c)) {
                sum += lane.size();
            }
            return sum;
        }

        int allAboard() {
            int sum = 0;
            for (int c = 0; c < lanes.size(); c++) {
                sum += aboard(c);
            }
            return sum;
        }

        List<Integer> leaving(int c) {
            int ramps = d.berths.get(d.crossings.get(c)[1])[1];
            List<Deque<Integer>> rows = new ArrayList<>();
            for (List<Integer> lane : lanes.get(c)) {
                Deque<Integer> row = new ArrayDeque<>();
                for (int v : lane) {
                    if (ramps == 1) {
                        row.addFirst(v);
                    } else {
                        row.addLast(v);
                    }
                }
                rows.add(row);
            }
            List<Integer> out = new ArrayList<>();
            for (int port = 0; port <= 5; port++) {
                for (Deque<Integer> row : rows) {
                    while (!row.isEmpty() && d.vehicles.get(row.peekFirst())[2] == port) {
                        out.add(row.removeFirst());
                    }
                }
            }
            return out;
        }

        int metersAboard() {
            int sum = 0;
            for (int v = 0; v < d.vehicles.size(); v++) {
                if (placeOf(v) != null) {
                    sum += d.vehicles.get(v)[1];
                }
            }
            return sum;
        }

        int laneMeters() {
            int sum = 0;
            for (int c = 0; c < reason.length; c++) {
                if (reason[c] == 0) {
                    int[] ship = d.ships.get(d.crossings.get(c)[0]);
                    sum += ship[1] * ship[2];
                }
            }
            return sum;
        }
    }

    private static final Pattern ENTRIES;

    static {
        String n = "[0-9]{1,4}";
        String entry = "(?:c" + n + "," + n + "," + n + "," + n + "|v" + n + "," + n + "," + n
                + "|t" + n + "=-?" + n + "|w" + n + "=" + n + ")";
        ENTRIES = Pattern.compile(entry + "(?:;" + entry + ")*");
    }

    private Data d = new Data();
    private Data saved = null;
    private final Deque<Data> history = new ArrayDeque<>();
    private String text = "";
    private int fault = NONE;
    private final int[][][] shelf = new int[3][3][];

    private static boolean in(int x, int low, int high) {
        return low <= x && x <= high;
    }

    private static boolean has(List<int[]> list, int i) {
        return in(i, 0, list.size() - 1);
    }

    private void change() {
        change(d.copy());
    }

    private void change(Data before) {
        history.push(before);
        while (history.size() > 6) {
            history.removeLast();
        }
    }

    private int add(List<int[]> list, int most, int... numbers) {
        if (list.size() == most) {
            return FULL;
        }
        change();
        list.add(numbers);
        return list.size() - 1;
    }

    public int addShip(int draft, int lanes, int length, int windLimit) {
        boolean good = in(draft, 50, 900) && in(lanes, 1, 4) && in(length, 10, 200) && in(windLimit, 0, 99);
        return good ? add(d.ships, 4, draft, lanes, length, windLimit) : BAD_VALUE;
    }

    public int addBerth(int depth, int ramps) {
        return in(depth, 0, 999) && in(ramps, 1, 2) ? add(d.berths, 3, depth, ramps) : BAD_VALUE;
    }

    public int addCrossing(int ship, int berth, int arrival, int departure) {
        if (!has(d.ships, ship) || !has(d.berths, berth)) {
            return NO_SUCH_ELEMENT;
        }
        long stay = (long) departure - arrival;
        if (arrival < 0 || stay < 1 || stay > 300 || departure > 2800) {
            return BAD_VALUE;
        }
        return add(d.crossings, 12, ship, berth, arrival, departure);
    }

    public int addVehicle(int crossing, int length, int port) {
        if (!has(d.crossings, crossing)) {
            return NO_SUCH_ELEMENT;
        }
        return in(length, 3, 30) && in(port, 0, 5) ? add(d.vehicles, 24, crossing, length, port) : BAD_VALUE;
    }

    public int addConnection(int crossing, int time, int patience, int passengers) {
        if (!has(d.crossings, crossing)) {
            return NO_SUCH_ELEMENT;
        }
        boolean good = in(time, 0, 2800) && in(patience, 0, 60) && in(passengers, 1, 999);
        return good ? add(d.connections, 8, crossing, time, patience, passengers) : BAD_VALUE;
    }

    public int removeCrossing(int crossing) {
        if (!has(d.crossings, crossing)) {
            return NO_SUCH_ELEMENT;
        }
        change();
        d.crossings.remove(crossing);
        for (List<int[]> list : List.of(d.vehicles, d.connections)) {
            list.removeIf(x -> x[0] == crossing);
            list.forEach(x -> x[0] -= x[0] > crossing ? 1 : 0);
        }
        return d.crossings.size();
    }

    public int setBerth(int berth, int depth, int ramps) {
        if (!has(d.berths, berth)) {
            return NO_SUCH_ELEMENT;
        }
        if (!in(depth, 0, 999) || !in(ramps, 1, 2)) {
            return BAD_VALUE;
        }
        change();
        int[] old = d.berths.set(berth, new int[] {depth, ramps});
        return 10 * old[0] + old[1];
    }

    public int setTide(int hour, int height) {
        if (!in(hour, 0, 48)) {
            return NO_SUCH_ELEMENT;
        }
        if (!in(height, -999, 999)) {
            return BAD_VALUE;
        }
        change();
        int old = d.tides[hour];
        d.tides[hour] = height;
        return old;
    }

    public int setWind(int hour, int wind) {
        if (!in(hour, 0, 47)) {
            return NO_SUCH_ELEMENT;
        }
        if (!in(wind, 0, 99)) {
            return BAD_VALUE;
        }
        change();
        int old = d.winds[hour];
        d.winds[hour] = wind;
        return old;
    }

    public int setMargin(int margin) {
        if (!in(margin, 0, 200)) {
            return BAD_VALUE;
        }
        change();
        int old = d.margin;
        d.margin = margin;
        return old;
    }

    public int append(int packed) {
        StringBuilder more = new StringBuilder();
        for (byte b : new byte[] {(byte) (packed >> 24), (byte) (packed >> 16), (byte) (packed >> 8), (byte) packed}) {
            if (b != 0 && !in(b, 33, 126)) {
                return BAD_VALUE;
            }
            if (b != 0) {
                more.append((char) b);
            }
        }
        if (text.length() + more.length() > 60) {
            return FULL;
        }
        text += more;
        return text.length();
    }

    private static boolean canGoOn(String start) {
        Matcher m = ENTRIES.matcher(start);
        return m.matches() || m.hitEnd();
    }

    public int read() {
        String all = text;
        text = "";
        for (int i = 1; i <= all.length(); i++) {
            if (!canGoOn(all.substring(0, i))) {
                fault = i - 1;
                return BAD_VALUE;
            }
        }
        if (!ENTRIES.matcher(all).matches()) {
            fault = all.length();
            return BAD_VALUE;
        }
        Data before = d.copy();
        List<Data> oldHistory = new ArrayList<>(history);
        int start = 0;
        String[] entries = all.split(";");
        for (String entry : entries) {
            boolean refused = make(entry) <= NO_SUCH_ELEMENT;
            history.clear();
            history.addAll(oldHistory);
            if (refused) {
                d = before;
                fault = start;
                return STATE;
            }
            start += entry.length() + 1;
        }
        change(before);
        fault = NONE;
        return entries.length;
    }

    private int make(String entry) {
        String[] parts = entry.substring(1).split("[,=]");
        int[] n = new int[parts.length];
        for (int i = 0; i < parts.length; i++) {
            n[i] = Integer.parseInt(parts[i]);
        }
        return switch (entry.charAt(0)) {
            case 'c' -> addCrossing(n[0], n[1], n[2], n[3]);
            case 'v' -> addVehicle(n[0], n[1], n[2]);
            case 't' -> setTide(n[0], n[1]);
            default -> setWind(n[0], n[1]);
        };
    }

    public int faultPosition() {
        return fault;
    }

    public int undo() {
        if (history.isEmpty()) {
            return NONE;
        }
        d = history.pop();
        return history.size();
    }

    public int count(int what) {
        int[] counts = {d.ships.size(), d.berths.size(), d.crossings.size(), d.vehicles.size(),
            d.connections.size(), text.length(), d.margin};
        return in(what, 0, 6) ? counts[what] : BAD_VALUE;
    }

    private int sailingWhere(int column, int number) {
        Plan p = new Plan(d);
        int sum = 0;
        for (int c = 0; c < d.crossings.size(); c++) {
            sum += p.reason[c] == 0 && d.crossings.get(c)[column] == number ? 1 : 0;
        }
        return sum;
    }

    public int ship(int ship, int what) {
        if (!has(d.ships, ship)) {
            return NO_SUCH_ELEMENT;
        }
        return in(what, 0, 3) ? d.ships.get(ship)[what] : what == 4 ? sailingWhere(0, ship) : BAD_VALUE;
    }

    public int berth(int berth, int what) {
        if (!has(d.berths, berth)) {
            return NO_SUCH_ELEMENT;
        }
        return in(what, 0, 1) ? d.berths.get(berth)[what] : what == 2 ? sailingWhere(1, berth) : BAD_VALUE;
    }

    public int crossing(int crossing, int what) {
        if (!has(d.crossings, crossing)) {
            return NO_SUCH_ELEMENT;
        }
        Plan p = new Plan(d);
        return switch (what) {
            case 0, 1, 2, 3 -> d.crossings.get(crossing)[what];
            case 4 -> p.delay[crossing];
            case 5 -> p.reason[crossing];
            case 6 -> p.detail[crossing];
            case 7 -> p.order.indexOf(crossing);
            case 8 -> p.aboard(crossing);
            case 9 -> p.waiting.get(crossing).size();
            default -> BAD_VALUE;
        };
    }

    public int decided(int position) {
        return has(d.crossings, position) ? new Plan(d).order.get(position) : NO_SUCH_ELEMENT;
    }

    public int vehicle(int vehicle, int what) {
        if (!has(d.vehicles, vehicle)) {
            return NO_SUCH_ELEMENT;
        }
        Plan p = new Plan(d);
        int[] place = p.placeOf(vehicle);
        return switch (what) {
            case 0, 1, 2 -> d.vehicles.get(vehicle)[what];
            case 3, 4, 5 -> place == null ? NONE : place[what - 3];
            case 6 -> p.shifts[vehicle];
            default -> BAD_VALUE;
        };
    }

    public int connection(int connection, int what) {
        if (!has(d.connections, connection)) {
            return NO_SUCH_ELEMENT;
        }
        return in(what, 0, 3) ? d.connections.get(connection)[what]
                : what == 4 ? new Plan(d).fate[connection] : BAD_VALUE;
    }

    public int tide(int hour) {
        return in(hour, 0, 48) ? d.tides[hour] : NO_SUCH_ELEMENT;
    }

    public int wind(int hour) {
        return in(hour, 0, 47) ? d.winds[hour] : NO_SUCH_ELEMENT;
    }

    public int height(int time) {
        return in(time, 0, 2879) ? (int) d.floatHeight(time) : BAD_VALUE;
    }

    public int heightBits(int time) {
        return in(time, 0, 2879) ? Float.floatToIntBits(d.floatHeight(time)) : 1;
    }

    public int water(int berth, int time) {
        return !has(d.berths, berth) ? NO_SUCH_ELEMENT : in(time, 0, 2879) ? d.water(berth, time) : BAD_VALUE;
    }

    public int firstTime(int berth, int ship, int from) {
        if (!has(d.berths, berth) || !has(d.ships, ship)) {
            return NO_SUCH_ELEMENT;
        }
        if (!in(from, 0, 2879)) {
            return BAD_VALUE;
        }
        int t = from;
        while (t < 2880 && d.water(berth, t) < d.need(ship)) {
            t++;
        }
        return t == 2880 ? NONE : t;
    }

    private boolean hasLane(int crossing, int lane) {
        return has(d.crossings, crossing) && in(lane, 0, d.ships.get(d.crossings.get(crossing)[0])[1] - 1);
    }

    public int laneLeft(int crossing, int lane) {
        if (!hasLane(crossing, lane)) {
            return NO_SUCH_ELEMENT;
        }
        Plan p = new Plan(d);
        return p.reason[crossing] == 0 ? p.left(crossing, lane) : STATE;
    }

    public int laneVehicle(int crossing, int lane, int index) {
        if (!hasLane(crossing, lane)) {
            return NO_SUCH_ELEMENT;
        }
        List<Integer> row = new Plan(d).lanes.get(crossing).get(lane);
        return in(index, 0, row.size() - 1) ? row.get(index) : NONE;
    }

    public int leaves(int crossing, int index) {
        if (!has(d.crossings, crossing)) {
            return NO_SUCH_ELEMENT;
        }
        List<Integer> out = new Plan(d).leaving(crossing);
        return in(index, 0, out.size() - 1) ? out.get(index) : NONE;
    }

    public int isOrderly() {
        Plan p = new Plan(d);
        for (int c = 0; c < d.crossings.size(); c++) {
            if (p.leaving(c).size() != p.aboard(c)) {
                return 0;
            }
        }
        return 1;
    }

    public int account(int what) {
        Plan p = new Plan(d);
        int[] passengers = new int[3];
        for (int k = 0; k < d.connections.size(); k++) {
            passengers[p.fate[k]] += d.connections.get(k)[3];
        }
        return switch (what) {
            case 0 -> p.sailing();
            case 1 -> d.crossings.size() - p.sailing();
            case 2 -> passengers[0] + passengers[1];
            case 3 -> passengers[2];
            case 4 -> p.allAboard();
            case 5 -> d.vehicles.size() - p.allAboard();
            case 6 -> Arrays.stream(p.delay).sum();
            case 7 -> p.metersAboard();
            case 8 -> p.laneMeters();
            case 9 -> Arrays.stream(p.shifts).sum();
            default -> BAD_VALUE;
        };
    }

    public int loadBits() {
        Plan p = new Plan(d);
        return p.sailing() == 0 ? NONE : Float.floatToIntBits((float) p.metersAboard() / (float) p.laneMeters());
    }

    public int sailingIf(int margin) {
        if (!in(margin, 0, 200)) {
            return BAD_VALUE;
        }
        Data other = d.copy();
        other.margin = margin;
        return new Plan(other).sailing();
    }

    public int bestBerth(int crossing) {
        if (!has(d.crossings, crossing)) {
            return NO_SUCH_ELEMENT;
        }
        int[] aboard = new int[d.berths.size()];
        for (int b = 0; b < aboard.length; b++) {
            Data other = d.copy();
            other.crossings.get(crossing)[1] = b;
            aboard[b] = new Plan(other).allAboard();
        }
        int most = Arrays.stream(aboard).max().getAsInt();
        int b = 0;
        while (aboard[b] != most) {
            b++;
        }
        return b;
    }

    public int layDown(int row, int place, int kind, int number) {
        if (!in(row, 0, 2) || !in(place, 0, 2)) {
            return NO_SUCH_ELEMENT;
        }
        if (!in(kind, 0, 1)) {
            return BAD_VALUE;
        }
        List<int[]> things = kind == 0 ? d.ships : d.berths;
        if (!has(things, number)) {
            return NO_SUCH_ELEMENT;
        }
        if (row != 2 && row != kind) {
            return UNLIKE;
        }
        shelf[row][place] = things.get(number).clone();
        int filled = 0;
        for (int[] thing : shelf[row]) {
            filled += thing == null ? 0 : 1;
        }
        return filled;
    }

    public int takeOut(int row, int place) {
        if (!in(row, 0, 2) || !in(place, 0, 2)) {
            return NO_SUCH_ELEMENT;
        }
        int[] thing = shelf[row][place];
        if (thing == null) {
            return NONE;
        }
        return thing.length == 4 ? add(d.ships, 4, thing.clone()) : add(d.berths, 3, thing.clone());
    }

    public int lying(int row, int place) {
        if (!in(row, 0, 2) || !in(place, 0, 2)) {
            return NO_SUCH_ELEMENT;
        }
        int[] thing = shelf[row][place];
        return thing == null ? NONE : thing.length == 4 ? 0 : 1;
    }

    public int save() {
        saved = d.copy();
        return d.crossings.size();
    }

    public int restore() {
        if (saved == null) {
            return STATE;
        }
        d = saved.copy();
        history.clear();
        return d.crossings.size();
    }
}
