/**
 * The ferries of one port: tides, berths, ships, crossings, vehicles, connections and weather.
 *
 * <p>Nothing is decided before it is asked for: a call that tells a result decides and loads anew
 * from the present data. All rows are made in the constructor and used again, so that no later
 * call makes an object.
 */
public final class FerryTimetable {
    public static final int NO_SUCH_ELEMENT = -10001;
    public static final int BAD_VALUE = -10002;
    public static final int FULL = -10003;
    public static final int NONE = -10004;
    public static final int STATE = -10005;
    public static final int UNLIKE = -10006;

    private static final int MOST_SHIPS = 4;
    private static final int MOST_BERTHS = 3;
    private static final int MOST_CROSSINGS = 12;
    private static final int MOST_VEHICLES = 24;
    private static final int MOST_CONNECTIONS = 8;
    private static final int MOST_LANES = 4;
    private static final int MOST_MARGIN = 200;
    private static final int TIDE_HOURS = 49;
    private static final int WIND_HOURS = 48;
    private static final int LAST_TIME = 2879;
    private static final int LAST_PORT = 5;
    private static final int KIND_SHIP = 0;
    private static final int KIND_BERTH = 1;

    private final Port port;
    private final Port spare;
    private final Port saved;
    private final History history;
    private final Decisions decisions;
    private final Loading loading;
    private final Text text;
    private final Shelf shelf;
    private boolean hasSaved;

    public FerryTimetable() {
        port = new Port();
        spare = new Port();
        saved = new Port();
        history = new History();
        decisions = new Decisions();
        loading = new Loading();
        text = new Text();
        shelf = new Shelf();
        hasSaved = false;
    }

    public int addShip(int draft, int lanes, int length, int windLimit) {
        spare.copyFrom(port);
        return noted(port.enterShip(draft, lanes, length, windLimit));
    }

    public int addBerth(int depth, int ramps) {
        spare.copyFrom(port);
        return noted(port.enterBerth(depth, ramps));
    }

    public int addCrossing(int ship, int berth, int arrival, int departure) {
        spare.copyFrom(port);
        return noted(port.enterCrossing(ship, berth, arrival, departure));
    }

    public int addVehicle(int crossing, int length, int port) {
        spare.copyFrom(this.port);
        return noted(this.port.enterVehicle(crossing, length, port));
    }

    public int addConnection(int crossing, int time, int patience, int passengers) {
        spare.copyFrom(port);
        return noted(port.enterConnection(crossing, time, patience, passengers));
    }

    public int removeCrossing(int crossing) {
        spare.copyFrom(port);
        return noted(port.dropCrossing(crossing));
    }

    public int setBerth(int berth, int depth, int ramps) {
        spare.copyFrom(port);
        return noted(port.changeBerth(berth, depth, ramps));
    }

    public int setTide(int hour, int height) {
        spare.copyFrom(port);
        return noted(port.changeTide(hour, height));
    }

    public int setWind(int hour, int wind) {
        spare.copyFrom(port);
        return noted(port.changeWind(hour, wind));
    }

    public int setMargin(int margin) {
        spare.copyFrom(port);
        return noted(port.changeMargin(margin));
    }

    public int append(int packed) {
        return text.take(packed);
    }

    public int read() {
        spare.copyFrom(port);
        int answer = text.makeEntries(port);
        if (answer == STATE) {
            port.copyFrom(spare);
        }
        return noted(answer);
    }

    public int faultPosition() {
        return text.fault;
    }

    public int undo() {
        return history.takeBack(port);
    }

    public int count(int what) {
        switch (what) {
            case 0: return port.ships.size();
            case 1: return port.berths.size();
            case 2: return port.crossings.size();
            case 3: return port.vehicles.size();
            case 4: return port.connections.size();
            case 5: return text.length;
            case 6: return port.margin;
            default: return BAD_VALUE;
        }
    }

    public int ship(int ship, int what) {
        if (!port.ships.has(ship)) {
            return NO_SUCH_ELEMENT;
        }
        if (isOutside(what, 0, 4)) {
            return BAD_VALUE;
        }
        if (what < 4) {
            return port.ships.at(ship, what);
        }
        decisions.make(port);
        return decisions.countSailing(port, Port.SHIP, ship);
    }

    public int berth(int berth, int what) {
        if (!port.berths.has(berth)) {
            return NO_SUCH_ELEMENT;
        }
        if (isOutside(what, 0, 2)) {
            return BAD_VALUE;
        }
        if (what < 2) {
            return port.berths.at(berth, what);
        }
        decisions.make(port);
        return decisions.countSailing(port, Port.BERTH, berth);
    }

    public int crossing(int crossing, int what) {
        if (!port.crossings.has(crossing)) {
            return NO_SUCH_ELEMENT;
        }
        if (isOutside(what, 0, 9)) {
            return BAD_VALUE;
        }
        if (what < 4) {
            return port.crossings.at(crossing, what);
        }
        decisions.make(port);
        if (what < 8) {
            return decisions.tell(crossing, what);
        }
        loading.make(port, decisions);
        return what == 8 ? loading.countAboard(port, crossing) : loading.waiting[crossing];
    }

    public int decided(int position) {
        if (!port.crossings.has(position)) {
            return NO_SUCH_ELEMENT;
        }
        decisions.make(port);
        return decisions.order[position];
    }

    public int vehicle(int vehicle, int what) {
        if (!port.vehicles.has(vehicle)) {
            return NO_SUCH_ELEMENT;
        }
        if (isOutside(what, 0, 6)) {
            return BAD_VALUE;
        }
        if (what < 3) {
            return port.vehicles.at(vehicle, what);
        }
        decisions.make(port);
        loading.make(port, decisions);
        return loading.tell(vehicle, what);
    }

    public int connection(int connection, int what) {
        if (!port.connections.has(connection)) {
            return NO_SUCH_ELEMENT;
        }
        if (isOutside(what, 0, 4)) {
            return BAD_VALUE;
        }
        if (what < 4) {
            return port.connections.at(connection, what);
        }
        decisions.make(port);
        return decisions.fate[connection];
    }

    public int tide(int hour) {
        return port.tides.has(hour) ? port.tides.at(hour, 0) : NO_SUCH_ELEMENT;
    }

    public int wind(int hour) {
        return port.winds.has(hour) ? port.winds.at(hour, 0) : NO_SUCH_ELEMENT;
    }

    public int height(int time) {
        return isOutside(time, 0, LAST_TIME) ? BAD_VALUE : (int) port.floatHeightAt(time);
    }

    public int heightBits(int time) {
        return isOutside(time, 0, LAST_TIME) ? 1 : bitsOf(port.floatHeightAt(time));
    }

    public int water(int berth, int time) {
        if (!port.berths.has(berth)) {
            return NO_SUCH_ELEMENT;
        }
        return isOutside(time, 0, LAST_TIME) ? BAD_VALUE : port.waterAt(berth, time);
    }

    public int firstTime(int berth, int ship, int from) {
        if (!port.berths.has(berth) || !port.ships.has(ship)) {
            return NO_SUCH_ELEMENT;
        }
        if (isOutside(from, 0, LAST_TIME)) {
            return BAD_VALUE;
        }
        for (int time = from; time <= LAST_TIME; time++) {
            if (port.isDeepEnough(berth, ship, time)) {
                return time;
            }
        }
        return NONE;
    }

    public int laneLeft(int crossing, int lane) {
        if (!port.hasLane(crossing, lane)) {
            return NO_SUCH_ELEMENT;
        }
        decisions.make(port);
        if (!decisions.sails(crossing)) {
            return STATE;
        }
        loading.make(port, decisions);
        return loading.left[crossing * MOST_LANES + lane];
    }

    public int laneVehicle(int crossing, int lane, int index) {
        if (!port.hasLane(crossing, lane)) {
            return NO_SUCH_ELEMENT;
        }
        decisions.make(port);
        loading.make(port, decisions);
        return loading.standingAt(port, crossing, lane, index);
    }

    public int leaves(int crossing, int index) {
        if (!port.crossings.has(crossing)) {
            return NO_SUCH_ELEMENT;
        }
        decisions.make(port);
        loading.make(port, decisions);
        int leaving = loading.unload(port, crossing);
        return isOutside(index, 0, leaving - 1) ? NONE : loading.leaveOrder[index];
    }

    public int isOrderly() {
        decisions.make(port);
        loading.make(port, decisions);
        for (int crossing = 0; crossing < port.crossings.size(); crossing++) {
            if (!loading.isRight(port, crossing)) {
                return 0;
            }
        }
        return 1;
    }

    public int account(int what) {
        if (isOutside(what, 0, 9)) {
            return BAD_VALUE;
        }
        decisions.make(port);
        loading.make(port, decisions);
        switch (what) {
            case 0: return decisions.countAllSailing(port);
            case 1: return port.crossings.size() - decisions.countAllSailing(port);
            case 2: return decisions.sumPassengers(port, false);
            case 3: return decisions.sumPassengers(port, true);
            case 4: return loading.countAllAboard(port);
            case 5: return port.vehicles.size() - loading.countAllAboard(port);
            case 6: return decisions.sumDelays(port);
            case 7: return loading.sumMetersAboard(port);
            case 8: return decisions.sumLaneMeters(port);
            default: return loading.sumShifts(port);
        }
    }

    public int loadBits() {
        decisions.make(port);
        loading.make(port, decisions);
        int laneMeters = decisions.sumLaneMeters(port);
        if (laneMeters == 0) {
            // every ship has at least one lane of at least 10 meters, so that nothing sails here
            return NONE;
        }
        return bitsOf((float) loading.sumMetersAboard(port) / (float) laneMeters);
    }

    public int sailingIf(int margin) {
        if (isOutside(margin, 0, MOST_MARGIN)) {
            return BAD_VALUE;
        }
        spare.copyFrom(port);
        spare.margin = margin;
        decisions.make(spare);
        return decisions.countAllSailing(spare);
    }

    public int bestBerth(int crossing) {
        if (!port.crossings.has(crossing)) {
            return NO_SUCH_ELEMENT;
        }
        int best = 0;
        int most = -1;
        spare.copyFrom(port);
        for (int berth = 0; berth < spare.berths.size(); berth++) {
            spare.crossings.put(crossing, Port.BERTH, berth);
            decisions.make(spare);
            loading.make(spare, decisions);
            int aboard = loading.countAllAboard(spare);
            if (aboard > most) {
                most = aboard;
                best = berth;
            }
        }
        return best;
    }

    public int layDown(int row, int place, int kind, int number) {
        if (!shelf.hasPlace(row, place)) {
            return NO_SUCH_ELEMENT;
        }
        if (kind != KIND_SHIP && kind != KIND_BERTH) {
            return BAD_VALUE;
        }
        Table things = kind == KIND_SHIP ? port.ships : port.berths;
        if (!things.has(number)) {
            return NO_SUCH_ELEMENT;
        }
        return shelf.lay(row, place, kind, things, number);
    }

    public int takeOut(int row, int place) {
        if (!shelf.hasPlace(row, place)) {
            return NO_SUCH_ELEMENT;
        }
        spare.copyFrom(port);
        return noted(shelf.addCopyTo(port, row, place));
    }

    public int lying(int row, int place) {
        return shelf.hasPlace(row, place) ? shelf.kindAt(row, place) : NO_SUCH_ELEMENT;
    }

    public int save() {
        saved.copyFrom(port);
        hasSaved = true;
        return port.crossings.size();
    }

    public int restore() {
        if (!hasSaved) {
            return STATE;
        }
        port.copyFrom(saved);
        history.forget();
        return port.crossings.size();
    }

    /** Keeps what stood before a change, which its caller has put into spare, if the change was made. */
    private int noted(int answer) {
        if (!isError(answer)) {
            history.keep(spare);
        }
        return answer;
    }

    private static boolean isError(int answer) {
        return answer >= UNLIKE && answer <= NO_SUCH_ELEMENT;
    }

    private static boolean isOutside(int value, int lowest, int highest) {
        return value < lowest || value > highest;
    }

    /**
     * The bits as by Float.floatToIntBits, which the language rules leave out. A zero is always the
     * positive one here: a + x is +0 if it is 0, as a comes from an int, and so is 0 / x with x above 0.
     */
    private static int bitsOf(float value) {
        if (value == 0.0f) {
            return 0;
        }
        float part = value < 0.0f ? -value : value;
        int exponent = 127;
        for (int i = 0; i < 127 && part >= 2.0f; i++) {
            part = part / 2.0f;
            exponent++;
        }
        for (int i = 0; i < 126 && part < 1.0f; i++) {
            part = part * 2.0f;
            exponent--;
        }
        int fraction = (int) (part * 8388608.0f) - 8388608;
        int sign = value < 0.0f ? 1 << 31 : 0;
        return sign | exponent << 23 | fraction;
    }

    /** Rows of numbers up to a fixed room. A cell that is not there reads as 0 and takes nothing. */
    private static final class Table {
        private final int room;
        private final int width;
        private final int[] cells;
        private int rows;

        Table(int room, int width, int rows) {
            this.room = room;
            this.width = width;
            this.rows = rows;
            cells = new int[room * width];
        }

        int size() {
            return rows;
        }

        boolean has(int row) {
            return row >= 0 && row < rows;
        }

        boolean isFull() {
            return rows >= room;
        }

        /** Calls nothing, as it is the deepest call of all. */
        int at(int row, int column) {
            if (row < 0 || row >= rows || column < 0 || column >= width) {
                return 0;
            }
            return cells[row * width + column];
        }

        void put(int row, int column, int value) {
            if (row < 0 || row >= rows || column < 0 || column >= width) {
                return;
            }
            cells[row * width + column] = value;
        }

        /** Columns beyond the width of the table are left out. */
        int addRow(int first, int second, int third, int fourth) {
            if (isFull()) {
                return FULL;
            }
            int row = rows;
            rows++;
            put(row, 0, first);
            put(row, 1, second);
            put(row, 2, third);
            put(row, 3, fourth);
            return row;
        }

        void removeRow(int row) {
            if (!has(row)) {
                return;
            }
            for (int i = row * width; i < (rows - 1) * width; i++) {
                cells[i] = cells[i + width];
            }
            rows--;
        }

        void clearRows() {
            rows = 0;
        }

        /** The other table is always one of the same kind; the shorter length is for safety alone. */
        void copyFrom(Table other) {
            rows = Math.min(other.rows, room);
            System.arraycopy(other.cells, 0, cells, 0, Math.min(cells.length, other.cells.length));
        }
    }

    /** All that undo, save and restore keep. The columns are numbered as in the calls that tell them. */
    private static final class Port {
        static final int DRAFT = 0;
        static final int LANES = 1;
        static final int LANE_LENGTH = 2;
        static final int WIND_LIMIT = 3;
        static final int DEPTH = 0;
        static final int RAMPS = 1;
        static final int SHIP = 0;
        static final int BERTH = 1;
        static final int ARRIVAL = 2;
        static final int DEPARTURE = 3;
        static final int WANTED = 0;
        static final int LENGTH = 1;
        static final int LEAVES_AT = 2;
        static final int FEEDS = 0;
        static final int FEEDER_TIME = 1;
        static final int PATIENCE = 2;
        static final int PASSENGERS = 3;

        final Table ships;
        final Table berths;
        final Table crossings;
        final Table vehicles;
        final Table connections;
        final Table tides;
        final Table winds;
        int margin;

        Port() {
            ships = new Table(MOST_SHIPS, 4, 0);
            berths = new Table(MOST_BERTHS, 2, 0);
            crossings = new Table(MOST_CROSSINGS, 4, 0);
            vehicles = new Table(MOST_VEHICLES, 3, 0);
            connections = new Table(MOST_CONNECTIONS, 4, 0);
            tides = new Table(TIDE_HOURS, 1, TIDE_HOURS);
            winds = new Table(WIND_HOURS, 1, WIND_HOURS);
            margin = 50;
        }

        void copyFrom(Port other) {
            ships.copyFrom(other.ships);
            berths.copyFrom(other.berths);
            crossings.copyFrom(other.crossings);
            vehicles.copyFrom(other.vehicles);
            connections.copyFrom(other.connections);
            tides.copyFrom(other.tides);
            winds.copyFrom(other.winds);
            margin = other.margin;
        }

        int enterShip(int draft, int lanes, int length, int windLimit) {
            if (isOutside(draft, 50, 900) || isOutside(lanes, 1, MOST_LANES)
                    || isOutside(length, 10, 200) || isOutside(windLimit, 0, 99)) {
                return BAD_VALUE;
            }
            return ships.addRow(draft, lanes, length, windLimit);
        }

        int enterBerth(int depth, int ramps) {
            return isBerth(depth, ramps) ? berths.addRow(depth, ramps, 0, 0) : BAD_VALUE;
        }

        int enterCrossing(int ship, int berth, int arrival, int departure) {
            if (!ships.has(ship) || !berths.has(berth)) {
                return NO_SUCH_ELEMENT;
            }
            // the two first tests keep the difference from overflowing
            if (arrival < 0 || isOutside(departure, 0, 2800) || isOutside(departure - arrival, 1, 300)) {
                return BAD_VALUE;
            }
            return crossings.addRow(ship, berth, arrival, departure);
        }

        int enterVehicle(int crossing, int length, int leavesAt) {
            if (!crossings.has(crossing)) {
                return NO_SUCH_ELEMENT;
            }
            if (isOutside(length, 3, 30) || isOutside(leavesAt, 0, LAST_PORT)) {
                return BAD_VALUE;
            }
            return vehicles.addRow(crossing, length, leavesAt, 0);
        }

        int enterConnection(int crossing, int time, int patience, int passengers) {
            if (!crossings.has(crossing)) {
                return NO_SUCH_ELEMENT;
            }
            if (isOutside(time, 0, 2800) || isOutside(patience, 0, 60) || isOutside(passengers, 1, 999)) {
                return BAD_VALUE;
            }
            return connections.addRow(crossing, time, patience, passengers);
        }

        int dropCrossing(int crossing) {
            if (!crossings.has(crossing)) {
                return NO_SUCH_ELEMENT;
            }
            crossings.removeRow(crossing);
            dropRowsOf(vehicles, WANTED, crossing);
            dropRowsOf(connections, FEEDS, crossing);
            return crossings.size();
        }

        /** Goes from the last row to the first, so that a removal moves no row that is still to come. */
        private static void dropRowsOf(Table table, int column, int crossing) {
            for (int row = table.size() - 1; row >= 0; row--) {
                int number = table.at(row, column);
                if (number == crossing) {
                    table.removeRow(row);
                } else if (number > crossing) {
                    table.put(row, column, number - 1);
                }
            }
        }

        int changeBerth(int berth, int depth, int ramps) {
            if (!berths.has(berth)) {
                return NO_SUCH_ELEMENT;
            }
            if (!isBerth(depth, ramps)) {
                return BAD_VALUE;
            }
            int previous = 10 * berths.at(berth, DEPTH) + berths.at(berth, RAMPS);
            berths.put(berth, DEPTH, depth);
            berths.put(berth, RAMPS, ramps);
            return previous;
        }

        int changeTide(int hour, int height) {
            if (!tides.has(hour)) {
                return NO_SUCH_ELEMENT;
            }
            if (isOutside(height, -999, 999)) {
                return BAD_VALUE;
            }
            int previous = tides.at(hour, 0);
            tides.put(hour, 0, height);
            return previous;
        }

        int changeWind(int hour, int wind) {
            if (!winds.has(hour)) {
                return NO_SUCH_ELEMENT;
            }
            if (isOutside(wind, 0, 99)) {
                return BAD_VALUE;
            }
            int previous = winds.at(hour, 0);
            winds.put(hour, 0, wind);
            return previous;
        }

        int changeMargin(int newMargin) {
            if (isOutside(newMargin, 0, MOST_MARGIN)) {
                return BAD_VALUE;
            }
            int previous = margin;
            margin = newMargin;
            return previous;
        }

        private static boolean isBerth(int depth, int ramps) {
            return !isOutside(depth, 0, 999) && !isOutside(ramps, 1, 2);
        }

        boolean hasLane(int crossing, int lane) {
            return crossings.has(crossing) && lane >= 0 && lane < lanesOf(crossing);
        }

        int lanesOf(int crossing) {
            return ships.at(crossings.at(crossing, SHIP), LANES);
        }

        int laneLengthOf(int crossing) {
            return ships.at(crossings.at(crossing, SHIP), LANE_LENGTH);
        }

        int windLimitOf(int crossing) {
            return ships.at(crossings.at(crossing, SHIP), WIND_LIMIT);
        }

        int rampsOf(int crossing) {
            return berths.at(crossings.at(crossing, BERTH), RAMPS);
        }

        int windAt(int time) {
            return winds.at(time / 60, 0);
        }

        float floatHeightAt(int time) {
            int hour = time / 60;
            float a = (float) tides.at(hour, 0);
            float b = (float) tides.at(hour + 1, 0);
            return a + (b - a) * ((float) (time - 60 * hour) / 60.0f);
        }

        int waterAt(int berth, int time) {
            return berths.at(berth, DEPTH) + (int) floatHeightAt(time);
        }

        boolean isDeepEnough(int berth, int ship, int time) {
            return waterAt(berth, time) >= ships.at(ship, DRAFT) + margin;
        }
    }

    /** The ports as they stood before the latest changes, in a ring. */
    private static final class History {
        private static final int ROOM = 6;

        private final Port[] earlier;
        private int next;
        private int held;

        History() {
            earlier = new Port[ROOM];
            for (int i = 0; i < ROOM; i++) {
                earlier[i] = new Port();
            }
            next = 0;
            held = 0;
        }

        void keep(Port before) {
            earlier[next].copyFrom(before);
            next = (next + 1) % ROOM;
            held = Math.min(held + 1, ROOM);
        }

        int takeBack(Port port) {
            if (held == 0) {
                return NONE;
            }
            held--;
            next = (next + ROOM - 1) % ROOM;
            port.copyFrom(earlier[next]);
            return held;
        }

        void forget() {
            held = 0;
        }
    }

    /** What becomes of the crossings and connections of a port. */
    private static final class Decisions {
        private static final int KEPT = 0;
        private static final int AWAITED = 1;
        private static final int MISSED = 2;

        final int[] order;
        final int[] position;
        final int[] reason;
        final int[] detail;
        final int[] delay;
        final int[] fate;

        Decisions() {
            order = new int[MOST_CROSSINGS];
            position = new int[MOST_CROSSINGS];
            reason = new int[MOST_CROSSINGS];
            detail = new int[MOST_CROSSINGS];
            delay = new int[MOST_CROSSINGS];
            fate = new int[MOST_CONNECTIONS];
        }

        void make(Port port) {
            for (int crossing = 0; crossing < port.crossings.size(); crossing++) {
                int place = countBefore(port, crossing);
                position[crossing] = place;
                order[place] = crossing;
            }
            for (int place = 0; place < port.crossings.size(); place++) {
                decide(port, place);
                settleConnections(port, order[place]);
            }
        }

        private static int countBefore(Port port, int crossing) {
            int departure = port.crossings.at(crossing, Port.DEPARTURE);
            int before = 0;
            for (int other = 0; other < port.crossings.size(); other++) {
                int otherDeparture = port.crossings.at(other, Port.DEPARTURE);
                if (otherDeparture < departure || otherDeparture == departure && other < crossing) {
                    before++;
                }
            }
            return before;
        }

        private void decide(Port port, int place) {
            int crossing = order[place];
            int why = 1;
            int found = strongWind(port, crossing);
            if (found == NONE) {
                why = 2;
                found = firstShallowTime(port, crossing);
            }
            if (found == NONE) {
                why = 3;
                found = firstInTheWay(port, place, Port.BERTH);
            }
            if (found == NONE) {
                why = 4;
                found = firstInTheWay(port, place, Port.SHIP);
            }
            reason[crossing] = found == NONE ? 0 : why;
            detail[crossing] = found;
        }

        private static int strongWind(Port port, int crossing) {
            int wind = port.windAt(port.crossings.at(crossing, Port.DEPARTURE));
            return wind > port.windLimitOf(crossing) ? wind : NONE;
        }

        private static int firstShallowTime(Port port, int crossing) {
            int ship = port.crossings.at(crossing, Port.SHIP);
            int berth = port.crossings.at(crossing, Port.BERTH);
            int arrival = port.crossings.at(crossing, Port.ARRIVAL);
            int departure = port.crossings.at(crossing, Port.DEPARTURE);
            if (!port.isDeepEnough(berth, ship, arrival)) {
                return arrival;
            }
            for (int time = (arrival / 60 + 1) * 60; time < departure; time += 60) {
                if (!port.isDeepEnough(berth, ship, time)) {
                    return time;
                }
            }
            return port.isDeepEnough(berth, ship, departure) ? NONE : departure;
        }

        /** The column tells whether the berth or the ship is what both crossings would need. */
        private int firstInTheWay(Port port, int place, int column) {
            int crossing = order[place];
            int arrival = port.crossings.at(crossing, Port.ARRIVAL);
            int departure = port.crossings.at(crossing, Port.DEPARTURE);
            for (int i = 0; i < place; i++) {
                int other = order[i];
                int end = port.crossings.at(other, Port.DEPARTURE) + delay[other];
                if (sails(other)
                        && port.crossings.at(other, column) == port.crossings.at(crossing, column)
                        && arrival < end
                        && port.crossings.at(other, Port.ARRIVAL) < departure) {
                    return other;
                }
            }
            return NONE;
        }

        /** Finds the delay too, before later crossings are decided, as they meet the end with it. */
        private void settleConnections(Port port, int crossing) {
            int departure = port.crossings.at(crossing, Port.DEPARTURE);
            delay[crossing] = 0;
            for (int i = 0; i < port.connections.size(); i++) {
                if (port.connections.at(i, Port.FEEDS) == crossing) {
                    fate[i] = sails(crossing) ? fateOf(port, crossing, i) : MISSED;
                    if (fate[i] == AWAITED) {
                        delay[crossing] = Math.max(delay[crossing], readyTime(port, i) - departure);
                    }
                }
            }
        }

        private static int fateOf(Port port, int crossing, int connection) {
            int departure = port.crossings.at(crossing, Port.DEPARTURE);
            int ready = readyTime(port, connection);
            if (ready <= departure) {
                return KEPT;
            }
            int ship = port.crossings.at(crossing, Port.SHIP);
            int berth = port.crossings.at(crossing, Port.BERTH);
            boolean waits = ready <= departure + port.connections.at(connection, Port.PATIENCE)
                    && port.windAt(ready) <= port.windLimitOf(crossing)
                    && port.isDeepEnough(berth, ship, ready);
            return waits ? AWAITED : MISSED;
        }

        private static int readyTime(Port port, int connection) {
            return port.connections.at(connection, Port.FEEDER_TIME) + 10;
        }

        boolean sails(int crossing) {
            return reason[crossing] == 0;
        }

        int tell(int crossing, int what) {
            switch (what) {
                case 4: return delay[crossing];
                case 5: return reason[crossing];
                case 6: return detail[crossing];
                default: return position[crossing];
            }
        }

        /** The next one in the order that sails and leaves later, or NONE. */
        int nextSailing(Port port, int place) {
            int departure = port.crossings.at(order[place], Port.DEPARTURE);
            for (int i = place + 1; i < port.crossings.size(); i++) {
                if (sails(order[i]) && port.crossings.at(order[i], Port.DEPARTURE) > departure) {
                    return order[i];
                }
            }
            return NONE;
        }

        int countSailing(Port port, int column, int number) {
            int sum = 0;
            for (int i = 0; i < port.crossings.size(); i++) {
                if (sails(i) && port.crossings.at(i, column) == number) {
                    sum++;
                }
            }
            return sum;
        }

        int countAllSailing(Port port) {
            int sum = 0;
            for (int i = 0; i < port.crossings.size(); i++) {
                if (sails(i)) {
                    sum++;
                }
            }
            return sum;
        }

        int sumPassengers(Port port, boolean missed) {
            int sum = 0;
            for (int i = 0; i < port.connections.size(); i++) {
                if ((fate[i] == MISSED) == missed) {
                    sum += port.connections.at(i, Port.PASSENGERS);
                }
            }
            return sum;
        }

        int sumDelays(Port port) {
            int sum = 0;
            for (int i = 0; i < port.crossings.size(); i++) {
                sum += delay[i];
            }
            return sum;
        }

        int sumLaneMeters(Port port) {
            int sum = 0;
            for (int i = 0; i < port.crossings.size(); i++) {
                if (sails(i)) {
                    sum += port.lanesOf(i) * port.laneLengthOf(i);
                }
            }
            return sum;
        }
    }

    /** Where the vehicles of a port come to stand. A lane of a crossing has the number crossing * MOST_LANES + lane. */
    private static final class Loading {
        final int[] waiting;
        final int[] left;
        final int[] leaveOrder;
        private final int[] queue;
        private final int[] standing;
        private final int[] lastPort;
        private final int[] sailsWith;
        private final int[] laneOf;
        private final int[] placeOf;
        private final int[] shifts;
        private final int[] gone;

        Loading() {
            waiting = new int[MOST_CROSSINGS];
            left = new int[MOST_CROSSINGS * MOST_LANES];
            leaveOrder = new int[MOST_VEHICLES];
            queue = new int[MOST_CROSSINGS * MOST_VEHICLES];
            standing = new int[MOST_CROSSINGS * MOST_LANES];
            lastPort = new int[MOST_CROSSINGS * MOST_LANES];
            sailsWith = new int[MOST_VEHICLES];
            laneOf = new int[MOST_VEHICLES];
            placeOf = new int[MOST_VEHICLES];
            shifts = new int[MOST_VEHICLES];
            gone = new int[MOST_LANES];
        }

        void make(Port port, Decisions decisions) {
            for (int crossing = 0; crossing < port.crossings.size(); crossing++) {
                waiting[crossing] = 0;
                emptyLanes(port, crossing);
            }
            // those who want a crossing queue before any shift is made, and so stand first there
            for (int vehicle = 0; vehicle < port.vehicles.size(); vehicle++) {
                sailsWith[vehicle] = NONE;
                laneOf[vehicle] = NONE;
                placeOf[vehicle] = NONE;
                shifts[vehicle] = 0;
                lineUp(port.vehicles.at(vehicle, Port.WANTED), vehicle);
            }
            for (int place = 0; place < port.crossings.size(); place++) {
                loadOrShift(port, decisions, place);
            }
        }

        private void emptyLanes(Port port, int crossing) {
            for (int lane = 0; lane < MOST_LANES; lane++) {
                left[crossing * MOST_LANES + lane] = port.laneLengthOf(crossing);
                standing[crossing * MOST_LANES + lane] = 0;
            }
        }

        private void lineUp(int crossing, int vehicle) {
            int behind = waiting[crossing];
            if (behind < MOST_VEHICLES) {
                queue[crossing * MOST_VEHICLES + behind] = vehicle;
                waiting[crossing] = behind + 1;
            }
        }

        private void loadOrShift(Port port, Decisions decisions, int place) {
            int crossing = decisions.order[place];
            int next = decisions.nextSailing(port, place);
            int queued = waiting[crossing];
            for (int i = 0; i < queued; i++) {
                int vehicle = queue[crossing * MOST_VEHICLES + i];
                int lane = decisions.sails(crossing) ? findLane(port, crossing, vehicle) : NONE;
                if (lane != NONE) {
                    board(port, crossing, lane, vehicle);
                } else if (next != NONE) {
                    shifts[vehicle]++;
                    lineUp(next, vehicle);
                }
            }
        }

        private int findLane(Port port, int crossing, int vehicle) {
            int length = port.vehicles.at(vehicle, Port.LENGTH);
            int best = NONE;
            int bestLeft = 0;
            for (int lane = 0; lane < port.lanesOf(crossing); lane++) {
                int space = left[crossing * MOST_LANES + lane];
                if (space >= length && (best == NONE || space < bestLeft)
                        && mayStand(port, crossing, lane, vehicle)) {
                    best = lane;
                    bestLeft = space;
                }
            }
            return best;
        }

        private boolean mayStand(Port port, int crossing, int lane, int vehicle) {
            int number = crossing * MOST_LANES + lane;
            int leavesAt = port.vehicles.at(vehicle, Port.LEAVES_AT);
            if (standing[number] == 0) {
                return true;
            }
            return port.rampsOf(crossing) == 1 ? leavesAt <= lastPort[number] : leavesAt >= lastPort[number];
        }

        private void board(Port port, int crossing, int lane, int vehicle) {
            int number = crossing * MOST_LANES + lane;
            sailsWith[vehicle] = crossing;
            laneOf[vehicle] = lane;
            placeOf[vehicle] = standing[number];
            standing[number]++;
            left[number] -= port.vehicles.at(vehicle, Port.LENGTH);
            lastPort[number] = port.vehicles.at(vehicle, Port.LEAVES_AT);
        }

        int tell(int vehicle, int what) {
            switch (what) {
                case 3: return sailsWith[vehicle];
                case 4: return laneOf[vehicle];
                case 5: return placeOf[vehicle];
                default: return shifts[vehicle];
            }
        }

        int standingAt(Port port, int crossing, int lane, int place) {
            for (int i = 0; i < port.vehicles.size(); i++) {
                if (sailsWith[i] == crossing && laneOf[i] == lane && placeOf[i] == place) {
                    return i;
                }
            }
            return NONE;
        }

        /** Fills leaveOrder with the vehicles of a crossing that get out, and returns how many do. */
        int unload(Port port, int crossing) {
            for (int lane = 0; lane < MOST_LANES; lane++) {
                gone[lane] = 0;
            }
            int out = 0;
            for (int call = 0; call <= LAST_PORT; call++) {
                for (int lane = 0; lane < port.lanesOf(crossing); lane++) {
                    out = unloadLane(port, crossing, lane, call, out);
                }
            }
            return out;
        }

        private int unloadLane(Port port, int crossing, int lane, int call, int outBefore) {
            int inLane = countInLane(port, crossing, lane);
            int out = outBefore;
            while (gone[lane] < inLane && out < MOST_VEHICLES) {
                int place = port.rampsOf(crossing) == 1 ? inLane - 1 - gone[lane] : gone[lane];
                int vehicle = standingAt(port, crossing, lane, place);
                if (vehicle == NONE || port.vehicles.at(vehicle, Port.LEAVES_AT) != call) {
                    break;
                }
                leaveOrder[out] = vehicle;
                out++;
                gone[lane]++;
            }
            return out;
        }

        /** Looks at where the vehicles stand alone, not at what was counted while loading. */
        boolean isRight(Port port, int crossing) {
            for (int lane = 0; lane < port.lanesOf(crossing); lane++) {
                if (sumMetersInLane(port, crossing, lane) > port.laneLengthOf(crossing)) {
                    return false;
                }
            }
            return unload(port, crossing) == countAboard(port, crossing);
        }

        private int countInLane(Port port, int crossing, int lane) {
            int sum = 0;
            for (int i = 0; i < port.vehicles.size(); i++) {
                if (sailsWith[i] == crossing && laneOf[i] == lane) {
                    sum++;
                }
            }
            return sum;
        }

        private int sumMetersInLane(Port port, int crossing, int lane) {
            int sum = 0;
            for (int i = 0; i < port.vehicles.size(); i++) {
                if (sailsWith[i] == crossing && laneOf[i] == lane) {
                    sum += port.vehicles.at(i, Port.LENGTH);
                }
            }
            return sum;
        }

        int countAboard(Port port, int crossing) {
            int sum = 0;
            for (int i = 0; i < port.vehicles.size(); i++) {
                if (sailsWith[i] == crossing) {
                    sum++;
                }
            }
            return sum;
        }

        int countAllAboard(Port port) {
            int sum = 0;
            for (int i = 0; i < port.vehicles.size(); i++) {
                if (sailsWith[i] != NONE) {
                    sum++;
                }
            }
            return sum;
        }

        int sumMetersAboard(Port port) {
            int sum = 0;
            for (int i = 0; i < port.vehicles.size(); i++) {
                if (sailsWith[i] != NONE) {
                    sum += port.vehicles.at(i, Port.LENGTH);
                }
            }
            return sum;
        }

        int sumShifts(Port port) {
            int sum = 0;
            for (int i = 0; i < port.vehicles.size(); i++) {
                sum += shifts[i];
            }
            return sum;
        }
    }

    /** The text that is appended, and the entries found in it. */
    private static final class Text {
        private static final int ROOM = 60;
        // the shortest entry has 4 characters, and 13 of them with the signs between are 64
        private static final int MOST_ENTRIES = 12;
        private static final int KIND = 4;
        private static final int START = 5;

        int length;
        int fault;
        private final char[] signs;
        private final Table entries;
        private int at;

        Text() {
            signs = new char[ROOM];
            // four numbers, then the kind and the start
            entries = new Table(MOST_ENTRIES, 6, 0);
            length = 0;
            at = 0;
            fault = NONE;
        }

        int take(int packed) {
            int added = 0;
            for (int shift = 24; shift >= 0; shift -= 8) {
                int sign = packed >>> shift & 255;
                if (sign != 0 && isOutside(sign, 33, 126)) {
                    return BAD_VALUE;
                }
                added += sign == 0 ? 0 : 1;
            }
            if (length + added > ROOM) {
                return FULL;
            }
            for (int shift = 24; shift >= 0; shift -= 8) {
                int sign = packed >>> shift & 255;
                if (sign != 0) {
                    signs[length] = (char) sign;
                    length++;
                }
            }
            return length;
        }

        /** Empties the text and makes its entries in the port, up to the first one that is refused. */
        int makeEntries(Port port) {
            fault = findEntries();
            length = 0;
            if (fault != NONE) {
                return BAD_VALUE;
            }
            for (int i = 0; i < entries.size(); i++) {
                if (isError(makeEntry(port, i))) {
                    fault = entries.at(i, START);
                    return STATE;
                }
            }
            return entries.size();
        }

        private int makeEntry(Port port, int entry) {
            int first = entries.at(entry, 0);
            int second = entries.at(entry, 1);
            int third = entries.at(entry, 2);
            int fourth = entries.at(entry, 3);
            switch (entries.at(entry, KIND)) {
                case 'c': return port.enterCrossing(first, second, third, fourth);
                case 'v': return port.enterVehicle(first, second, third);
                case 't': return port.changeTide(first, second);
                default: return port.changeWind(first, second);
            }
        }

        /** Returns the fault position, or NONE. */
        private int findEntries() {
            entries.clearRows();
            at = 0;
            for (int i = 0; i < MOST_ENTRIES; i++) {
                if (!findEntry()) {
                    return at;
                }
                if (at == length) {
                    return NONE;
                }
                if (!passes(';')) {
                    return at;
                }
            }
            return at;
        }

        /** If it returns false, at is the fault position. */
        private boolean findEntry() {
            int start = at;
            int kind = signHere();
            int numbers = countNumbers(kind);
            if (numbers == 0) {
                return false;
            }
            at++;
            int row = entries.addRow(0, 0, 0, 0);
            entries.put(row, KIND, kind);
            entries.put(row, START, start);
            for (int i = 0; i < numbers; i++) {
                if (i > 0 && !passes(numbers == 2 ? '=' : ',')) {
                    return false;
                }
                boolean isNegative = kind == 't' && i == 1 && passes('-');
                if (!findNumber(row, i, isNegative ? -1 : 1)) {
                    return false;
                }
            }
            return true;
        }

        private static int countNumbers(int kind) {
            switch (kind) {
                case 'c': return 4;
                case 'v': return 3;
                case 't': return 2;
                case 'w': return 2;
                default: return 0;
            }
        }

        private boolean findNumber(int row, int column, int sign) {
            int number = 0;
            int digits = 0;
            while (digits < 4 && !isOutside(signHere(), '0', '9')) {
                number = number * 10 + signHere() - '0';
                digits++;
                at++;
            }
            entries.put(row, column, sign * number);
            return digits > 0;
        }

        private boolean passes(char sign) {
            if (signHere() != sign) {
                return false;
            }
            at++;
            return true;
        }

        /** No sign of a text is 0, so that 0 stands for its end. */
        private int signHere() {
            return at < length ? signs[at] : 0;
        }
    }

    /** Copies of ships and berths; an empty place has the kind NONE. */
    private static final class Shelf {
        private static final int ROWS = 3;
        private static final int PLACES = 3;
        private static final int SHIP_ROW = 0;
        private static final int BERTH_ROW = 1;
        private static final int KIND = 4;

        private final Table copies;

        Shelf() {
            copies = new Table(ROWS * PLACES, 5, ROWS * PLACES);
            for (int i = 0; i < ROWS * PLACES; i++) {
                copies.put(i, KIND, NONE);
            }
        }

        boolean hasPlace(int row, int place) {
            return row >= 0 && row < ROWS && place >= 0 && place < PLACES;
        }

        int kindAt(int row, int place) {
            return copies.at(row * PLACES + place, KIND);
        }

        int lay(int row, int place, int kind, Table things, int number) {
            if (row == SHIP_ROW && kind != KIND_SHIP || row == BERTH_ROW && kind != KIND_BERTH) {
                return UNLIKE;
            }
            for (int column = 0; column < KIND; column++) {
                copies.put(row * PLACES + place, column, things.at(number, column));
            }
            copies.put(row * PLACES + place, KIND, kind);
            return countFilled(row);
        }

        private int countFilled(int row) {
            int sum = 0;
            for (int place = 0; place < PLACES; place++) {
                if (kindAt(row, place) != NONE) {
                    sum++;
                }
            }
            return sum;
        }

        int addCopyTo(Port port, int row, int place) {
            int copy = row * PLACES + place;
            switch (copies.at(copy, KIND)) {
                case KIND_SHIP:
                    return port.enterShip(copies.at(copy, Port.DRAFT), copies.at(copy, Port.LANES),
                            copies.at(copy, Port.LANE_LENGTH), copies.at(copy, Port.WIND_LIMIT));
                case KIND_BERTH:
                    return port.enterBerth(copies.at(copy, Port.DEPTH), copies.at(copy, Port.RAMPS));
                default:
                    return NONE;
            }
        }
    }
}
