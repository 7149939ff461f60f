/**
 * A planner of truck platoons, as ../shared/DOC.md describes it.
 *
 * All rows are made with the object and used again, so that no call makes objects, but for the exceptions that it
 * throws. A STOP, here and below, is a truck at a place of its route, written truck * PLACES + place.
 */
public final class TruckPlatoons {
    public static final int NONE = -1;
    public static final int TEXT_ERROR = -2;
    public static final int REFUSED = -3;

    private static final int ROADS = 30;
    private static final int TRUCKS = 12;
    private static final int PLACES = 10;
    private static final int NODES = 20;
    private static final int STOPS = TRUCKS * PLACES;

    private static final int LAST_START = 2000;
    private static final int LAST_DEADLINE = 10000;
    private static final int LAST_MINUTE = 20000;
    private static final int MOST_WAIT = 120;
    private static final int LEAST_SPEED = 40;
    private static final int MOST_SPEED = 120;
    private static final int USUAL_SPEED = 80;
    private static final int CLOSING_COST = 300;
    private static final int MOST_MERGES = 30;
    private static final int MOST_ORDERED = 6;

    private static final int SYNTAX_ERROR = 1;
    private static final int RANGE_ERROR = 2;
    private static final int ROAD_ERROR = 3;
    private static final int LIMIT_ERROR = 4;

    private static final int CAN_MERGE = 0;
    private static final int SAME_TRUCK = 1;
    private static final int NO_RUN = 2;
    private static final int TOO_FAR_APART = 3;
    private static final int ONE_LATE = 4;
    private static final int OTHER_LATE = 5;

    private final Text text = new Text();
    private final Fleet fleet = new Fleet();
    private final Loader loader = new Loader();
    private final Script script = new Script();
    private final Routes routes = new Routes(fleet);
    private final Plan plan = new Plan(fleet, routes);
    private final Plan trial = new Plan(fleet, routes);
    private final Merger merger = new Merger(fleet, routes, plan, trial);
    private final BestOrder bestOrder = new BestOrder(plan);
    private final History history = new History();
    private final Output output = new Output();
    private final int[] reached = new int[NODES];

    public TruckPlatoons() {
    }

    public int appendInput(int w0, int w1, int w2, int w3, int w4) {
        if (text.length + 20 > Text.MOST_BYTES) {
            return NONE;
        }
        text.append(w0);
        text.append(w1);
        text.append(w2);
        text.append(w3);
        text.append(w4);
        return text.length;
    }

    public int truncateInput(int length) {
        if (length < 0 || length > text.length) {
            return NONE;
        }
        text.length = length;
        return length;
    }

    public int load() {
        text.open();
        boolean good = loader.read(text);
        text.length = 0;
        if (!good) {
            return TEXT_ERROR;
        }
        fleet.copy(loader.draft);
        routes.prepare();
        plan.begin();
        history.forgetEdits();
        history.forgetSnapshots();
        return fleet.trucks;
    }

    public int errorCode() {
        return text.errorCode;
    }

    public int errorPosition() {
        return text.errorPosition;
    }

    public int count(int what) {
        switch (what) {
            case 0:
                return fleet.roads;
            case 1:
                return fleet.trucks;
            case 2:
                return routes.allStops();
            case 3:
                return companies();
            case 4:
                return Integer.bitCount(lateSet());
            case 5:
                return plan.allFuel;
            case 6:
                return plan.savedOnRows(0, routes.allStops());
            case 7:
                return plan.closedOnRows(0, routes.allStops()) * CLOSING_COST;
            case 8:
                return history.edits;
            case 9:
                return greatestPlatoon();
            default:
                return NONE;
        }
    }

    private int companies() {
        int found = 0;
        for (int at = 0; at < routes.allStops(); at++) {
            int stop = plan.row[at];
            if (plan.position[stop] == 0 && plan.inCompany(stop)) {
                found++;
            }
        }
        return found;
    }

    private int greatestPlatoon() {
        int greatest = 0;
        for (int at = 0; at < routes.allStops(); at++) {
            greatest = Math.max(greatest, plan.position[plan.row[at]] + 1);
        }
        return greatest;
    }

    private int lateSet() {
        int set = 0;
        for (int truck = 0; truck < fleet.trucks; truck++) {
            if (plan.isLate(truck)) {
                set |= 1 << truck;
            }
        }
        return set;
    }

    public int road(int road, int what) throws IndexOutOfBoundsException {
        checkRoad(road);
        switch (what) {
            case 0:
                return fleet.from[road];
            case 1:
                return fleet.to[road];
            case 2:
                return fleet.length[road];
            case 3:
                return fleet.limit[road];
            case 4:
                return plan.platoonsOn(road);
            case 5:
                return Integer.bitCount(routes.trucksOn(road));
            default:
                return NONE;
        }
    }

    public int truck(int truck, int what) throws IndexOutOfBoundsException {
        checkTruck(truck);
        switch (what) {
            case 0:
                return plan.start[truck];
            case 1:
                return fleet.deadline[truck];
            case 2:
                return fleet.gap[truck];
            case 3:
                return fleet.places[truck];
            case 4:
                return plan.arrival(truck);
            case 5:
                return fleet.kilometers(truck);
            case 6:
                return plan.fuelOf(truck);
            case 7:
                return plan.savedBy(truck);
            case 8:
                return plan.closedBy(truck);
            default:
                return NONE;
        }
    }

    public int place(int truck, int place, int what) throws IndexOutOfBoundsException {
        checkPlace(truck, place);
        int stop = stopAt(truck, place);
        switch (what) {
            case 0:
                return fleet.route[stop];
            case 1:
                return plan.wait[stop];
            case 2:
                return plan.speed[stop];
            case 3:
                return plan.ready(truck, place);
            case 4:
                return plan.enter[stop];
            case 5:
                return plan.leave[stop];
            case 6:
                return plan.base(stop);
            case 7:
                return plan.saved[stop];
            case 8:
                return plan.fuel(stop);
            case 9:
                return plan.closes[stop] ? 1 : 0;
            case 10:
                return plan.distance[stop];
            default:
                return NONE;
        }
    }

    public int platoonOf(int truck, int place) throws IndexOutOfBoundsException {
        checkPlace(truck, place);
        return plan.number[stopAt(truck, place)];
    }

    public int position(int truck, int place) throws IndexOutOfBoundsException {
        checkPlace(truck, place);
        return plan.position[stopAt(truck, place)];
    }

    public int key(int truck, int place) throws IndexOutOfBoundsException {
        checkPlace(truck, place);
        return plan.key[stopAt(truck, place)];
    }

    public int platoon(int road, int platoon, int what) throws IndexOutOfBoundsException {
        checkPlatoon(road, platoon);
        int first = plan.firstOf(road, platoon);
        int after = plan.afterPlatoon(road, first);
        switch (what) {
            case 0:
                return plan.enter[plan.row[first]];
            case 1:
                return plan.speed[plan.row[first]];
            case 2:
                return after - first;
            case 3:
                return plan.savedOnRows(first, after);
            case 4:
                return plan.closedOnRows(first, after);
            case 5:
                return plan.trucksOnRows(first, after);
            default:
                return NONE;
        }
    }

    public int member(int road, int platoon, int position) throws IndexOutOfBoundsException {
        checkPlatoon(road, platoon);
        checkPosition(position);
        int first = plan.firstOf(road, platoon);
        int members = plan.afterPlatoon(road, first) - first;
        return position < members ? plan.row[first + position] / PLACES : NONE;
    }

    public int together(int truck, int other) throws IndexOutOfBoundsException {
        checkTruck(truck);
        checkTruck(other);
        if (truck == other) {
            return REFUSED;
        }
        int found = 0;
        for (int stop = truck * PLACES; stop < routes.after[truck]; stop++) {
            for (int mate = other * PLACES; mate < routes.after[other]; mate++) {
                if (plan.inOnePlatoon(stop, mate)) {
                    found++;
                }
            }
        }
        return found;
    }

    public int pairSaved(int truck, int other) throws IndexOutOfBoundsException {
        checkTruck(truck);
        checkTruck(other);
        if (truck == other) {
            return REFUSED;
        }
        int sum = 0;
        for (int stop = truck * PLACES; stop < routes.after[truck]; stop++) {
            for (int mate = other * PLACES; mate < routes.after[other]; mate++) {
                sum += plan.savedByPair(stop, mate);
            }
        }
        return sum;
    }

    public int run(int truck, int other, int what) throws IndexOutOfBoundsException, IllegalArgumentException {
        checkTruck(truck);
        checkTruck(other);
        checkRange(what, 0, 2);
        if (truck == other) {
            return REFUSED;
        }
        merger.findRun(truck, other);
        if (what == 0) {
            return merger.placeOfOne;
        }
        return what == 1 ? merger.placeOfOther : merger.runLength;
    }

    public int common(int truck, int other) throws IndexOutOfBoundsException {
        checkTruck(truck);
        checkTruck(other);
        int found = 0;
        for (int road = 0; road < fleet.roads; road++) {
            if (routes.isOn(truck, road) && routes.isOn(other, road)) {
                found++;
            }
        }
        return found;
    }

    public int slack(int truck) throws IndexOutOfBoundsException {
        checkTruck(truck);
        return fleet.deadline[truck] - plan.arrival(truck);
    }

    public int neededSpeed(int truck, int place, int minute)
            throws IndexOutOfBoundsException, IllegalArgumentException {
        checkPlace(truck, place);
        checkRange(minute, 0, LAST_MINUTE);
        int stop = stopAt(truck, place);
        int road = fleet.route[stop];
        for (int speed = LEAST_SPEED; speed <= fleet.limit[road]; speed++) {
            if (plan.enter[stop] + fleet.minutes(road, speed) <= minute) {
                return speed;
            }
        }
        return NONE;
    }

    public int setWait(int truck, int place, int minutes) throws IndexOutOfBoundsException, IllegalArgumentException {
        checkPlace(truck, place);
        checkRange(minutes, 0, MOST_WAIT);
        return changeWait(stopAt(truck, place), minutes);
    }

    private int changeWait(int stop, int minutes) {
        history.keep(plan);
        int previous = plan.wait[stop];
        plan.wait[stop] = minutes;
        plan.arrange();
        return previous;
    }

    public int setSpeed(int truck, int place, int speed) throws IndexOutOfBoundsException, IllegalArgumentException {
        checkPlace(truck, place);
        int stop = stopAt(truck, place);
        checkRange(speed, LEAST_SPEED, fleet.limit[fleet.route[stop]]);
        return changeSpeed(stop, speed);
    }

    private int changeSpeed(int stop, int speed) {
        history.keep(plan);
        int previous = plan.speed[stop];
        plan.speed[stop] = speed;
        plan.arrange();
        return previous;
    }

    public int setStart(int truck, int minute) throws IndexOutOfBoundsException, IllegalArgumentException {
        checkTruck(truck);
        checkRange(minute, 0, LAST_START);
        return changeStart(truck, minute);
    }

    private int changeStart(int truck, int minute) {
        history.keep(plan);
        int previous = plan.start[truck];
        plan.start[truck] = minute;
        plan.arrange();
        return previous;
    }

    public int reason(int truck, int other) throws IndexOutOfBoundsException {
        checkTruck(truck);
        checkTruck(other);
        return merger.attempt(truck, other);
    }

    public int merge(int truck, int other) throws IndexOutOfBoundsException {
        checkTruck(truck);
        checkTruck(other);
        return mergeTwo(truck, other);
    }

    private int mergeTwo(int truck, int other) {
        if (merger.attempt(truck, other) != CAN_MERGE) {
            return REFUSED;
        }
        history.keep(plan);
        plan.copyChoices(trial);
        plan.arrange();
        return merger.runLength;
    }

    public int gain(int truck, int other) throws IndexOutOfBoundsException, IllegalStateException {
        checkTruck(truck);
        checkTruck(other);
        if (merger.attempt(truck, other) != CAN_MERGE) {
            throw new IllegalStateException("these trucks cannot be merged");
        }
        trial.arrange();
        return plan.allFuel - trial.allFuel;
    }

    public int bestPartner(int truck) throws IndexOutOfBoundsException {
        checkTruck(truck);
        int best = NONE;
        int least = plan.allFuel;
        for (int other = 0; other < fleet.trucks; other++) {
            if (merger.attempt(truck, other) == CAN_MERGE) {
                trial.arrange();
                if (trial.allFuel < least) {
                    least = trial.allFuel;
                    best = other;
                }
            }
        }
        return best;
    }

    public int mergeAll() {
        return mergeByGain();
    }

    private int mergeByGain() {
        history.keep(plan);
        for (int merges = 0; merges < MOST_MERGES; merges++) {
            if (!mergeBestTwo()) {
                return merges;
            }
        }
        return MOST_MERGES;
    }

    /** Merges the two trucks behind whose merging all FUEL is least, as their GAIN is then the greatest. */
    private boolean mergeBestTwo() {
        int least = plan.allFuel;
        int bestOne = NONE;
        int bestOther = NONE;
        for (int one = 0; one < fleet.trucks; one++) {
            for (int other = one + 1; other < fleet.trucks; other++) {
                if (merger.attempt(one, other) == CAN_MERGE) {
                    trial.arrange();
                    if (trial.allFuel < least) {
                        least = trial.allFuel;
                        bestOne = one;
                        bestOther = other;
                    }
                }
            }
        }
        if (bestOne == NONE || merger.attempt(bestOne, bestOther) != CAN_MERGE) {
            return false;
        }
        plan.copyChoices(trial);
        plan.arrange();
        return true;
    }

    public int hurry(int truck) throws IndexOutOfBoundsException {
        checkTruck(truck);
        return speedUp(truck);
    }

    private int speedUp(int truck) {
        history.keep(plan);
        int changed = 0;
        for (int stop = truck * PLACES; stop < routes.after[truck] && plan.isLate(truck); stop++) {
            int limit = fleet.limit[fleet.route[stop]];
            if (plan.speed[stop] != limit) {
                plan.speed[stop] = limit;
                plan.setTimes(truck);
                changed++;
            }
        }
        plan.arrange();
        return changed;
    }

    public int relax(int truck) throws IndexOutOfBoundsException {
        checkTruck(truck);
        return slowDown(truck);
    }

    private int slowDown(int truck) {
        history.keep(plan);
        int changed = 0;
        for (int stop = routes.after[truck] - 1; stop >= truck * PLACES; stop--) {
            int speed = plan.leastTimelySpeed(truck, stop);
            if (plan.speed[stop] != speed) {
                plan.speed[stop] = speed;
                plan.setTimes(truck);
                changed++;
            }
        }
        plan.arrange();
        return changed;
    }

    public int onRoad(int road, int minute) throws IndexOutOfBoundsException {
        checkRoad(road);
        int set = 0;
        for (int at = routes.begin[road]; at < routes.begin[road + 1]; at++) {
            int stop = plan.row[at];
            if (plan.enter[stop] <= minute && plan.leave[stop] > minute) {
                set |= 1 << (stop / PLACES);
            }
        }
        return set;
    }

    public int alone() {
        int set = 0;
        for (int truck = 0; truck < fleet.trucks; truck++) {
            if (!plan.meetsOthers(truck)) {
                set |= 1 << truck;
            }
        }
        return set;
    }

    public int lateOnes() {
        return lateSet();
    }

    public int bestRoad() {
        int best = NONE;
        int most = 0;
        for (int road = 0; road < fleet.roads; road++) {
            int saved = plan.savedOnRows(routes.begin[road], routes.begin[road + 1]);
            if (saved > most) {
                best = road;
                most = saved;
            }
        }
        return best;
    }

    public int orderLoss(int road, int platoon) throws IndexOutOfBoundsException, IllegalStateException {
        checkPlatoon(road, platoon);
        int first = plan.firstOf(road, platoon);
        int after = plan.afterPlatoon(road, first);
        checkOrdered(after - first);
        bestOrder.search(first, after);
        return bestOrder.value - plan.valueOfOrder(plan.row, first, after);
    }

    public int bestMember(int road, int platoon, int position)
            throws IndexOutOfBoundsException, IllegalStateException {
        checkPlatoon(road, platoon);
        checkPosition(position);
        int first = plan.firstOf(road, platoon);
        int after = plan.afterPlatoon(road, first);
        checkOrdered(after - first);
        if (position >= after - first) {
            return NONE;
        }
        bestOrder.search(first, after);
        return bestOrder.best[position] / PLACES;
    }

    public float rate(int truck) throws IndexOutOfBoundsException {
        checkTruck(truck);
        int kilometers = fleet.kilometers(truck);
        return kilometers == 0 ? 0f : (float) plan.fuelOf(truck) / (float) kilometers;
    }

    public int shareBits() throws ArithmeticException {
        int bases = plan.allBases();
        if (bases == 0) {
            throw new ArithmeticException("there are no trucks");
        }
        return floatBits((float) plan.savedOnRows(0, routes.allStops()) / (float) bases);
    }

    /** The language has no Float.floatToIntBits; doubling is exact, so this is the same for 0 and 1e-30 to below 1. */
    private static int floatBits(float share) {
        if (share <= 0f) {
            return 0;
        }
        float scaled = share;
        int exponent = 127;
        for (int doublings = 0; doublings < 100 && scaled < 1f; doublings++) {
            scaled = scaled * 2f;
            exponent--;
        }
        return (exponent << 23) + (int) ((scaled - 1f) * 8388608f);
    }

    public int quickest(int from, int to) throws IllegalArgumentException {
        checkRange(from, 0, NODES - 1);
        checkRange(to, 0, NODES - 1);
        for (int node = 0; node < NODES; node++) {
            reached[node] = NONE;
        }
        reached[from] = 0;
        // a quickest way passes no node twice, so that it has fewer roads than there are nodes
        for (int rounds = 1; rounds < NODES; rounds++) {
            reachFurther();
        }
        return reached[to];
    }

    private void reachFurther() {
        for (int road = 0; road < fleet.roads; road++) {
            int before = reached[fleet.from[road]];
            if (before != NONE) {
                int minutes = before + fleet.minutes(road, fleet.limit[road]);
                int known = reached[fleet.to[road]];
                if (known == NONE || minutes < known) {
                    reached[fleet.to[road]] = minutes;
                }
            }
        }
    }

    public int write(int truck) throws IndexOutOfBoundsException {
        checkTruck(truck);
        output.length = 0;
        for (int place = 0; place < fleet.places[truck]; place++) {
            int stop = stopAt(truck, place);
            if (place > 0) {
                output.put(' ');
            }
            output.putNumber(plan.enter[stop]);
            output.put('-');
            output.putNumber(plan.leave[stop]);
            if (plan.inCompany(stop)) {
                output.put('*');
                output.putNumber(plan.position[stop]);
            }
        }
        return output.length;
    }

    public int outputByte(int index) {
        return index >= 0 && index < output.length ? output.bytes[index] : NONE;
    }

    public int play() {
        text.open();
        boolean good = script.read(text);
        text.length = 0;
        if (!good) {
            return TEXT_ERROR;
        }
        for (int command = 0; command < script.commands; command++) {
            if (!perform(command)) {
                return command;
            }
        }
        return script.commands;
    }

    /** Does a command of a script; false where its method would throw an exception or return an error code. */
    private boolean perform(int command) {
        int word = script.word(command);
        int first = script.argument(command, 0);
        int second = script.argument(command, 1);
        int third = script.argument(command, 2);
        if (word == Script.ALL) {
            mergeByGain();
            return true;
        }
        if (!fleet.hasTruck(first)) {
            return false;
        }
        switch (word) {
            case Script.WAIT:
                return performWait(first, second, third);
            case Script.SPEED:
                return performSpeed(first, second, third);
            case Script.START:
                changeStart(first, second);
                return true;
            case Script.MERGE:
                return fleet.hasTruck(second) && mergeTwo(first, second) != REFUSED;
            case Script.HURRY:
                speedUp(first);
                return true;
            default:
                slowDown(first);
                return true;
        }
    }

    private boolean performWait(int truck, int place, int minutes) {
        if (!fleet.hasPlace(truck, place)) {
            return false;
        }
        changeWait(stopAt(truck, place), minutes);
        return true;
    }

    private boolean performSpeed(int truck, int place, int speed) {
        if (!fleet.hasPlace(truck, place) || speed > fleet.limit[fleet.route[stopAt(truck, place)]]) {
            return false;
        }
        changeSpeed(stopAt(truck, place), speed);
        return true;
    }

    public int undo() {
        if (history.edits == 0) {
            return NONE;
        }
        history.takeBack(plan);
        plan.arrange();
        return history.edits;
    }

    public int digest() {
        int digest = 1;
        for (int truck = 0; truck < fleet.trucks; truck++) {
            for (int stop = truck * PLACES; stop < routes.after[truck]; stop++) {
                digest = 31 * digest + plan.enter[stop];
                digest = 31 * digest + plan.speed[stop];
                digest = 31 * digest + plan.fuel(stop);
            }
        }
        return digest;
    }

    public boolean saveSnapshot(int slot) {
        if (slot < 0 || slot >= History.SLOTS) {
            return false;
        }
        history.saveIn(slot, plan);
        return true;
    }

    public boolean restoreSnapshot(int slot) {
        if (slot < 0 || slot >= History.SLOTS || !history.isSaved[slot]) {
            return false;
        }
        history.restoreFrom(slot, plan);
        plan.arrange();
        history.forgetEdits();
        return true;
    }

    private static int stopAt(int truck, int place) {
        return truck * PLACES + place;
    }

    private void checkRoad(int road) {
        if (!fleet.hasRoad(road)) {
            throw new IndexOutOfBoundsException("no such road");
        }
    }

    private void checkTruck(int truck) {
        if (!fleet.hasTruck(truck)) {
            throw new IndexOutOfBoundsException("no such truck");
        }
    }

    private void checkPlace(int truck, int place) {
        if (!fleet.hasPlace(truck, place)) {
            throw new IndexOutOfBoundsException("no such truck or place");
        }
    }

    private void checkPlatoon(int road, int platoon) {
        if (!fleet.hasRoad(road) || platoon < 0 || platoon >= plan.platoonsOn(road)) {
            throw new IndexOutOfBoundsException("no such road or platoon");
        }
    }

    private static void checkPosition(int position) {
        if (position < 0) {
            throw new IndexOutOfBoundsException("a position is not negative");
        }
    }

    private static void checkRange(int value, int least, int most) {
        if (value < least || value > most) {
            throw new IllegalArgumentException("out of range");
        }
    }

    private static void checkOrdered(int members) {
        if (members > MOST_ORDERED) {
            throw new IllegalStateException("the platoon has too many members");
        }
    }

    /** The input buffer, its tokens one by one, and the first error of the text. */
    private static final class Text {
        static final int MOST_BYTES = 1500;
        static final int END = 0;
        static final int WORD = 1;
        static final int NUMBER = 2;
        static final int SEMICOLON = 3;
        static final int NO_TOKEN = 4;

        private static final int MOST_LETTERS = 8;
        private static final int MOST_DIGITS = 5;

        final byte[] bytes = new byte[MOST_BYTES];
        int length = 0;
        int errorCode = 0;
        int errorPosition = NONE;

        // of the token that next() has read: its kind, its first byte, the byte behind it, its value as a number
        int kind = END;
        int begin = 0;
        int end = 0;
        int value = 0;

        void append(int word) {
            for (int shift = 24; shift >= 0 && length < MOST_BYTES; shift -= 8) {
                bytes[length] = (byte) (word >> shift);
                length++;
            }
        }

        void open() {
            end = 0;
            errorCode = 0;
            errorPosition = NONE;
        }

        void next() {
            begin = end;
            while (begin < length && (bytes[begin] == ' ' || bytes[begin] == '\n')) {
                begin++;
            }
            end = begin;
            if (begin >= length) {
                kind = END;
            } else if (isDigit(bytes[begin])) {
                readDigits();
            } else if (isLetter(bytes[begin])) {
                readLetters();
            } else {
                kind = bytes[begin] == ';' ? SEMICOLON : NO_TOKEN;
                end = begin + 1;
            }
        }

        private void readDigits() {
            value = 0;
            while (end < length && isDigit(bytes[end])) {
                if (end - begin < MOST_DIGITS) {
                    value = value * 10 + bytes[end] - '0';
                }
                end++;
            }
            kind = end - begin <= MOST_DIGITS ? NUMBER : NO_TOKEN;
        }

        private void readLetters() {
            while (end < length && isLetter(bytes[end])) {
                end++;
            }
            kind = end - begin <= MOST_LETTERS ? WORD : NO_TOKEN;
        }

        private static boolean isDigit(byte sign) {
            return sign >= '0' && sign <= '9';
        }

        private static boolean isLetter(byte sign) {
            return sign >= 'a' && sign <= 'z';
        }

        boolean isWord(String word) {
            if (kind != WORD || word == null || end - begin != word.length()) {
                return false;
            }
            for (int at = 0; at < word.length(); at++) {
                if (bytes[begin + at] != word.charAt(at)) {
                    return false;
                }
            }
            return true;
        }

        /** Notes an error at the token; false, so that a reader can return it. */
        boolean fail(int code) {
            errorCode = code;
            errorPosition = begin;
            return false;
        }

        /** Reads a number into value; false with an error if the next token is none, or is out of range. */
        boolean readNumber(int least, int most) {
            next();
            if (kind != NUMBER) {
                return fail(SYNTAX_ERROR);
            }
            return value >= least && value <= most || fail(RANGE_ERROR);
        }

        boolean readSemicolon() {
            next();
            return kind == SEMICOLON || fail(SYNTAX_ERROR);
        }
    }

    /** The roads and trucks that a text of load() tells. */
    private static final class Fleet {
        int roads = 0;
        final int[] from = new int[ROADS];
        final int[] to = new int[ROADS];
        final int[] length = new int[ROADS];
        final int[] limit = new int[ROADS];
        int trucks = 0;
        final int[] firstStart = new int[TRUCKS];
        final int[] deadline = new int[TRUCKS];
        final int[] gap = new int[TRUCKS];
        final int[] places = new int[TRUCKS];
        final int[] route = new int[STOPS];

        void copy(Fleet other) {
            roads = other.roads;
            System.arraycopy(other.from, 0, from, 0, ROADS);
            System.arraycopy(other.to, 0, to, 0, ROADS);
            System.arraycopy(other.length, 0, length, 0, ROADS);
            System.arraycopy(other.limit, 0, limit, 0, ROADS);
            trucks = other.trucks;
            System.arraycopy(other.firstStart, 0, firstStart, 0, TRUCKS);
            System.arraycopy(other.deadline, 0, deadline, 0, TRUCKS);
            System.arraycopy(other.gap, 0, gap, 0, TRUCKS);
            System.arraycopy(other.places, 0, places, 0, TRUCKS);
            System.arraycopy(other.route, 0, route, 0, STOPS);
        }

        boolean hasRoad(int road) {
            return road >= 0 && road < roads;
        }

        boolean hasTruck(int truck) {
            return truck >= 0 && truck < trucks;
        }

        boolean hasPlace(int truck, int place) {
            return hasTruck(truck) && place >= 0 && place < places[truck];
        }

        int minutes(int road, int speed) {
            return speed < 1 ? 0 : (length[road] * 60 + speed - 1) / speed;
        }

        int kilometers(int truck) {
            int sum = 0;
            for (int place = 0; place < places[truck]; place++) {
                sum += length[route[stopAt(truck, place)]];
            }
            return sum;
        }
    }

    /** Reads a text of load() into a draft, so that a text with an error leaves the fleet as it is. */
    private static final class Loader {
        final Fleet draft = new Fleet();

        boolean read(Text text) {
            draft.roads = 0;
            draft.trucks = 0;
            for (int statements = 0; statements <= Text.MOST_BYTES; statements++) {
                text.next();
                if (text.kind == Text.END) {
                    return true;
                }
                boolean good = false;
                if (text.isWord("road")) {
                    good = draft.roads < ROADS ? readRoad(text, draft.roads) : text.fail(LIMIT_ERROR);
                } else if (text.isWord("truck")) {
                    good = draft.trucks < TRUCKS ? readTruck(text, draft.trucks) : text.fail(LIMIT_ERROR);
                } else {
                    text.fail(SYNTAX_ERROR);
                }
                if (!good) {
                    return false;
                }
            }
            return false;
        }

        private boolean readRoad(Text text, int road) {
            if (!text.readNumber(0, NODES - 1)) {
                return false;
            }
            draft.from[road] = text.value;
            if (!text.readNumber(0, NODES - 1)) {
                return false;
            }
            draft.to[road] = text.value;
            if (draft.to[road] == draft.from[road]) {
                return text.fail(ROAD_ERROR);
            }
            if (!text.readNumber(1, 300)) {
                return false;
            }
            draft.length[road] = text.value;
            if (!text.readNumber(LEAST_SPEED, MOST_SPEED)) {
                return false;
            }
            draft.limit[road] = text.value;
            draft.roads = road + 1;
            return text.readSemicolon();
        }

        private boolean readTruck(Text text, int truck) {
            if (!text.readNumber(0, LAST_START)) {
                return false;
            }
            draft.firstStart[truck] = text.value;
            if (!text.readNumber(0, LAST_DEADLINE)) {
                return false;
            }
            draft.deadline[truck] = text.value;
            if (!text.readNumber(5, 60)) {
                return false;
            }
            draft.gap[truck] = text.value;
            draft.trucks = truck + 1;
            return readRoute(text, truck);
        }

        private boolean readRoute(Text text, int truck) {
            for (int place = 0; place <= PLACES; place++) {
                text.next();
                if (text.kind == Text.SEMICOLON && place > 0) {
                    draft.places[truck] = place;
                    return true;
                }
                if (text.kind != Text.NUMBER) {
                    return text.fail(SYNTAX_ERROR);
                }
                if (text.value >= draft.roads) {
                    return text.fail(RANGE_ERROR);
                }
                if (place > 0 && draft.from[text.value] != draft.to[draft.route[stopAt(truck, place - 1)]]) {
                    return text.fail(ROAD_ERROR);
                }
                if (place == PLACES) {
                    return text.fail(LIMIT_ERROR);
                }
                draft.route[stopAt(truck, place)] = text.value;
            }
            return false;
        }
    }

    /** The commands of a script, read whole before the first of them is done. */
    private static final class Script {
        static final int WAIT = 0;
        static final int SPEED = 1;
        static final int START = 2;
        static final int MERGE = 3;
        static final int HURRY = 4;
        static final int RELAX = 5;
        static final int ALL = 6;

        private static final int MOST_COMMANDS = 30;
        private static final int MOST_ARGUMENTS = 3;

        int commands = 0;
        private final int[] words = new int[MOST_COMMANDS];
        private final int[] arguments = new int[MOST_COMMANDS * MOST_ARGUMENTS];

        int word(int command) {
            return words[command];
        }

        int argument(int command, int index) {
            return arguments[command * MOST_ARGUMENTS + index];
        }

        boolean read(Text text) {
            commands = 0;
            for (int command = 0; command <= MOST_COMMANDS; command++) {
                text.next();
                if (text.kind == Text.END) {
                    return true;
                }
                int found = commandWord(text);
                if (found == NONE) {
                    return text.fail(SYNTAX_ERROR);
                }
                if (command == MOST_COMMANDS) {
                    return text.fail(LIMIT_ERROR);
                }
                words[command] = found;
                if (!readArguments(text, command) || !text.readSemicolon()) {
                    return false;
                }
                commands = command + 1;
            }
            return false;
        }

        private static int commandWord(Text text) {
            if (text.isWord("wait")) {
                return WAIT;
            }
            if (text.isWord("speed")) {
                return SPEED;
            }
            if (text.isWord("start")) {
                return START;
            }
            if (text.isWord("merge")) {
                return MERGE;
            }
            if (text.isWord("hurry")) {
                return HURRY;
            }
            if (text.isWord("relax")) {
                return RELAX;
            }
            return text.isWord("all") ? ALL : NONE;
        }

        private boolean readArguments(Text text, int command) {
            int word = words[command];
            for (int index = 0; index < argumentsOf(word); index++) {
                int least = word == SPEED && index == 2 ? LEAST_SPEED : 0;
                if (!text.readNumber(least, mostOf(word, index))) {
                    return false;
                }
                arguments[command * MOST_ARGUMENTS + index] = text.value;
            }
            return true;
        }

        private static int argumentsOf(int word) {
            switch (word) {
                case WAIT:
                case SPEED:
                    return 3;
                case START:
                case MERGE:
                    return 2;
                case HURRY:
                case RELAX:
                    return 1;
                default:
                    return 0;
            }
        }

        private static int mostOf(int word, int index) {
            if (index == 0 || word == MERGE) {
                return TRUCKS - 1;
            }
            if (word == START) {
                return LAST_START;
            }
            if (index == 1) {
                return PLACES - 1;
            }
            return word == WAIT ? MOST_WAIT : MOST_SPEED;
        }
    }

    /** What follows from the routes alone, worked out once after each load(), as every trial of a merging needs it. */
    private static final class Routes {
        private final Fleet fleet;

        /** The stops road by road: those of a road stand from begin[road] to begin[road + 1]. */
        final int[] byRoad = new int[STOPS];
        final int[] begin = new int[ROADS + 1];

        /** For each truck, the stop number behind its last stop. */
        final int[] after = new int[TRUCKS];

        /** NEXT of each stop. */
        final int[] next = new int[STOPS];

        /** At stop * TRUCKS + other, how many places the stop shares with each place of the other truck, in 4 bits. */
        private final long[] shared = new long[STOPS * TRUCKS];

        Routes(Fleet fleet) {
            this.fleet = fleet;
        }

        void prepare() {
            for (int truck = 0; truck < fleet.trucks; truck++) {
                after[truck] = stopAt(truck, fleet.places[truck]);
            }
            listByRoad();
            setNext();
            for (int truck = 0; truck < fleet.trucks; truck++) {
                for (int other = 0; other < fleet.trucks; other++) {
                    setShared(truck, other);
                }
            }
        }

        private void listByRoad() {
            int listed = 0;
            for (int road = 0; road < fleet.roads; road++) {
                begin[road] = listed;
                for (int truck = 0; truck < fleet.trucks; truck++) {
                    for (int stop = truck * PLACES; stop < after[truck]; stop++) {
                        if (fleet.route[stop] == road) {
                            byRoad[listed] = stop;
                            listed++;
                        }
                    }
                }
            }
            begin[fleet.roads] = listed;
        }

        private void setNext() {
            for (int truck = 0; truck < fleet.trucks; truck++) {
                int last = after[truck] - 1;
                for (int stop = truck * PLACES; stop < last; stop++) {
                    next[stop] = fleet.route[stop + 1];
                }
                next[last] = NONE;
            }
        }

        /** From the last places to the first ones, as each number is built on that of the two places behind. */
        private void setShared(int truck, int other) {
            for (int stop = after[truck] - 1; stop >= truck * PLACES; stop--) {
                shared[stop * TRUCKS + other] = 0L;
                for (int mate = after[other] - 1; mate >= other * PLACES; mate--) {
                    if (fleet.route[stop] == fleet.route[mate]) {
                        boolean goOn = next[stop] != NONE && next[mate] != NONE;
                        long places = goOn ? 1L + sharedPlaces(stop + 1, mate + 1) : 1L;
                        shared[stop * TRUCKS + other] |= places << 4 * (mate % PLACES);
                    }
                }
            }
        }

        /** How many places two stops share. */
        int sharedPlaces(int stop, int other) {
            return (int) (shared[stop * TRUCKS + other / PLACES] >> 4 * (other % PLACES)) & 15;
        }

        int allStops() {
            return begin[fleet.roads];
        }

        boolean isOn(int truck, int road) {
            return (trucksOn(road) >> truck & 1) != 0;
        }

        int trucksOn(int road) {
            int set = 0;
            for (int at = begin[road]; at < begin[road + 1]; at++) {
                set |= 1 << (byRoad[at] / PLACES);
            }
            return set;
        }
    }

    /** Choices (starts, waits and speeds), and what follows from them: times, platoons and fuel. */
    private static final class Plan {
        static final int CHOICES = TRUCKS + STOPS + STOPS;

        private final Fleet fleet;
        private final Routes routes;

        final int[] start = new int[TRUCKS];
        final int[] wait = new int[STOPS];
        final int[] speed = new int[STOPS];

        final int[] enter = new int[STOPS];
        final int[] leave = new int[STOPS];

        /** The stops road by road as in Routes; those of a road platoon by platoon, those of a platoon in its ORDER. */
        final int[] row = new int[STOPS];
        final int[] number = new int[STOPS];
        final int[] position = new int[STOPS];
        final int[] key = new int[STOPS];
        final int[] distance = new int[STOPS];
        final int[] saved = new int[STOPS];
        final boolean[] closes = new boolean[STOPS];
        int allFuel = 0;

        Plan(Fleet fleet, Routes routes) {
            this.fleet = fleet;
            this.routes = routes;
        }

        /** Makes the first choices for a fleet that has just been loaded. */
        void begin() {
            System.arraycopy(fleet.firstStart, 0, start, 0, TRUCKS);
            for (int truck = 0; truck < fleet.trucks; truck++) {
                for (int stop = truck * PLACES; stop < routes.after[truck]; stop++) {
                    wait[stop] = 0;
                    speed[stop] = Math.min(USUAL_SPEED, fleet.limit[fleet.route[stop]]);
                }
            }
            System.arraycopy(routes.byRoad, 0, row, 0, STOPS);
            arrange();
        }

        /** Takes over another plan's choices, and its row, which is then nearly in order for arrange(). */
        void copyChoices(Plan other) {
            System.arraycopy(other.start, 0, start, 0, TRUCKS);
            System.arraycopy(other.wait, 0, wait, 0, STOPS);
            System.arraycopy(other.speed, 0, speed, 0, STOPS);
            System.arraycopy(other.row, 0, row, 0, STOPS);
        }

        void writeChoices(int[] choices) {
            System.arraycopy(start, 0, choices, 0, TRUCKS);
            System.arraycopy(wait, 0, choices, TRUCKS, STOPS);
            System.arraycopy(speed, 0, choices, TRUCKS + STOPS, STOPS);
        }

        void readChoices(int[] choices) {
            System.arraycopy(choices, 0, start, 0, TRUCKS);
            System.arraycopy(choices, TRUCKS, wait, 0, STOPS);
            System.arraycopy(choices, TRUCKS + STOPS, speed, 0, STOPS);
        }

        /** Works out everything that follows from the choices. */
        void arrange() {
            for (int truck = 0; truck < fleet.trucks; truck++) {
                setTimes(truck);
            }
            allFuel = 0;
            for (int road = 0; road < fleet.roads; road++) {
                int first = routes.begin[road];
                int end = routes.begin[road + 1];
                sortByTime(first, end);
                int platoons = 0;
                for (int after = first + 1; after <= end; after++) {
                    if (after == end || isEarlier(row[first], row[after])) {
                        setKeys(first, after);
                        sortByKey(first, after);
                        setPlatoon(first, after, platoons);
                        platoons++;
                        first = after;
                    }
                }
            }
        }

        void setTimes(int truck) {
            int minute = start[truck];
            for (int stop = truck * PLACES; stop < routes.after[truck]; stop++) {
                enter[stop] = minute + wait[stop];
                minute = enter[stop] + fleet.minutes(fleet.route[stop], speed[stop]);
                leave[stop] = minute;
            }
        }

        private void sortByTime(int first, int end) {
            for (int at = first + 1; at < end; at++) {
                int stop = row[at];
                int to = at;
                while (to > first && isEarlier(stop, row[to - 1])) {
                    row[to] = row[to - 1];
                    to--;
                }
                row[to] = stop;
            }
        }

        private boolean isEarlier(int stop, int other) {
            return enter[stop] < enter[other] || enter[stop] == enter[other] && speed[stop] < speed[other];
        }

        private void setKeys(int first, int after) {
            for (int at = first; at < after; at++) {
                int most = 0;
                for (int with = first; with < after; with++) {
                    int places = routes.sharedPlaces(row[at], row[with]);
                    if (with != at && places > most) {
                        most = places;
                    }
                }
                key[row[at]] = most;
            }
        }

        private void sortByKey(int first, int after) {
            for (int at = first + 1; at < after; at++) {
                int stop = row[at];
                int to = at;
                while (to > first && isAhead(stop, row[to - 1])) {
                    row[to] = row[to - 1];
                    to--;
                }
                row[to] = stop;
            }
        }

        /** A truck stands in a platoon once, so that of two stops in it the lesser one is that of the lower truck. */
        private boolean isAhead(int stop, int other) {
            return key[stop] > key[other] || key[stop] == key[other] && stop < other;
        }

        private void setPlatoon(int first, int after, int platoon) {
            int base = base(row[first]);
            for (int at = first; at < after; at++) {
                int stop = row[at];
                number[stop] = platoon;
                position[stop] = at - first;
                distance[stop] = at == first ? 0 : distanceAt(row, at);
                closes[stop] = closesUpAt(row, first, at);
                saved[stop] = at == first ? 0 : base * shareByDistance(distance[stop]) / 1000;
                allFuel += base - saved[stop] + (closes[stop] ? CLOSING_COST : 0);
            }
            if (after - first > 1) {
                saved[row[first]] = base * (shareByDistance(distance[row[first + 1]]) / 4) / 1000;
                allFuel -= saved[row[first]];
            }
        }

        /** The distance to the one ahead, for a position that is not the first one of its order. */
        private int distanceAt(int[] order, int at) {
            int ahead = fleet.gap[order[at - 1] / PLACES];
            int own = fleet.gap[order[at] / PLACES];
            return ahead > own ? ahead : own;
        }

        private boolean closesUpAt(int[] order, int first, int at) {
            int next = routes.next[order[at]];
            if (next == NONE || at == first || routes.next[order[at - 1]] == next) {
                return false;
            }
            for (int ahead = first; ahead < at - 1; ahead++) {
                if (routes.next[order[ahead]] == next) {
                    return true;
                }
            }
            return false;
        }

        private static int shareByDistance(int distance) {
            return distance < 50 ? 150 - 3 * distance : 0;
        }

        /** What the members of an order save, less what closing up costs in it. */
        int valueOfOrder(int[] order, int first, int after) {
            int base = base(order[first]);
            int value = 0;
            for (int at = first + 1; at < after; at++) {
                int share = shareByDistance(distanceAt(order, at));
                value += base * share / 1000;
                if (at == first + 1) {
                    value += base * (share / 4) / 1000;
                }
                if (closesUpAt(order, first, at)) {
                    value -= CLOSING_COST;
                }
            }
            return value;
        }

        int platoonsOn(int road) {
            int end = routes.begin[road + 1];
            return end > routes.begin[road] ? number[row[end - 1]] + 1 : 0;
        }

        /** Where a platoon begins in the row; where the road ends there if it has no such platoon. */
        int firstOf(int road, int platoon) {
            int at = routes.begin[road];
            while (at < routes.begin[road + 1] && number[row[at]] < platoon) {
                at++;
            }
            return at;
        }

        int afterPlatoon(int road, int first) {
            int at = first;
            while (at < routes.begin[road + 1] && number[row[at]] == number[row[first]]) {
                at++;
            }
            return at;
        }

        int ready(int truck, int place) {
            return place == 0 ? start[truck] : leave[stopAt(truck, place - 1)];
        }

        int arrival(int truck) {
            return leave[routes.after[truck] - 1];
        }

        boolean isLate(int truck) {
            return arrival(truck) > fleet.deadline[truck];
        }

        /** The least speed at a stop with which the truck is not late; the present one if there is none. */
        int leastTimelySpeed(int truck, int stop) {
            int road = fleet.route[stop];
            int others = arrival(truck) - fleet.minutes(road, speed[stop]);
            for (int slower = LEAST_SPEED; slower < speed[stop]; slower++) {
                if (others + fleet.minutes(road, slower) <= fleet.deadline[truck]) {
                    return slower;
                }
            }
            return speed[stop];
        }

        int base(int stop) {
            return fleet.length[fleet.route[stop]] * (150 + speed[stop] * speed[stop] / 40);
        }

        int fuel(int stop) {
            return base(stop) - saved[stop] + (closes[stop] ? CLOSING_COST : 0);
        }

        int allBases() {
            int sum = 0;
            for (int at = 0; at < routes.allStops(); at++) {
                sum += base(row[at]);
            }
            return sum;
        }

        int fuelOf(int truck) {
            int sum = 0;
            for (int stop = truck * PLACES; stop < routes.after[truck]; stop++) {
                sum += fuel(stop);
            }
            return sum;
        }

        int savedBy(int truck) {
            int sum = 0;
            for (int stop = truck * PLACES; stop < routes.after[truck]; stop++) {
                sum += saved[stop];
            }
            return sum;
        }

        int closedBy(int truck) {
            int found = 0;
            for (int stop = truck * PLACES; stop < routes.after[truck]; stop++) {
                if (closes[stop]) {
                    found++;
                }
            }
            return found;
        }

        int savedOnRows(int first, int after) {
            int sum = 0;
            for (int at = first; at < after; at++) {
                sum += saved[row[at]];
            }
            return sum;
        }

        int closedOnRows(int first, int after) {
            int found = 0;
            for (int at = first; at < after; at++) {
                if (closes[row[at]]) {
                    found++;
                }
            }
            return found;
        }

        int trucksOnRows(int first, int after) {
            int set = 0;
            for (int at = first; at < after; at++) {
                set |= 1 << (row[at] / PLACES);
            }
            return set;
        }

        /** Two members share at least the road that they are on, so that only one alone has the KEY 0. */
        boolean inCompany(int stop) {
            return key[stop] > 0;
        }

        boolean meetsOthers(int truck) {
            for (int stop = truck * PLACES; stop < routes.after[truck]; stop++) {
                if (inCompany(stop)) {
                    return true;
                }
            }
            return false;
        }

        boolean inOnePlatoon(int stop, int other) {
            return fleet.route[stop] == fleet.route[other] && number[stop] == number[other];
        }

        /** What a PAIR at two stops saves; 0 if they are not directly one behind the other. */
        int savedByPair(int stop, int other) {
            int step = position[other] - position[stop];
            if (!inOnePlatoon(stop, other) || step != 1 && step != -1) {
                return 0;
            }
            int ahead = step == 1 ? stop : other;
            int behind = step == 1 ? other : stop;
            return saved[behind] + (position[ahead] == 0 ? saved[ahead] : 0);
        }
    }

    /** Tries mergings of two trucks in a plan of its own. */
    private static final class Merger {
        private final Fleet fleet;
        private final Routes routes;
        private final Plan plan;
        private final Plan trial;

        /** The RUN that findRun() has found. */
        int placeOfOne = NONE;
        int placeOfOther = NONE;
        int runLength = 0;

        Merger(Fleet fleet, Routes routes, Plan plan, Plan trial) {
            this.fleet = fleet;
            this.routes = routes;
            this.plan = plan;
            this.trial = trial;
        }

        void findRun(int one, int other) {
            for (int place = 0; place < fleet.places[one]; place++) {
                int stop = stopAt(one, place);
                for (int mate = other * PLACES; mate < routes.after[other]; mate++) {
                    if (fleet.route[stop] == fleet.route[mate]) {
                        placeOfOne = place;
                        placeOfOther = mate - other * PLACES;
                        runLength = routes.sharedPlaces(stop, mate);
                        return;
                    }
                }
            }
            placeOfOne = NONE;
            placeOfOther = NONE;
            runLength = 0;
        }

        /** The reason why two trucks cannot be merged; if they can, the trial then has the choices behind it. */
        int attempt(int one, int other) {
            if (one == other) {
                return SAME_TRUCK;
            }
            findRun(one, other);
            if (runLength == 0) {
                return NO_RUN;
            }
            int ahead = plan.ready(other, placeOfOther) - plan.ready(one, placeOfOne);
            if (Math.abs(ahead) > MOST_WAIT) {
                return TOO_FAR_APART;
            }
            trial.copyChoices(plan);
            drive(stopAt(one, placeOfOne), stopAt(other, placeOfOther), ahead);
            trial.setTimes(one);
            trial.setTimes(other);
            if (trial.isLate(one) && !plan.isLate(one)) {
                return ONE_LATE;
            }
            return trial.isLate(other) && !plan.isLate(other) ? OTHER_LATE : CAN_MERGE;
        }

        private void drive(int stop, int mate, int ahead) {
            for (int step = 0; step < runLength; step++) {
                int speed = Math.min(trial.speed[stop + step], trial.speed[mate + step]);
                trial.speed[stop + step] = speed;
                trial.speed[mate + step] = speed;
                trial.wait[stop + step] = 0;
                trial.wait[mate + step] = 0;
            }
            trial.wait[stop] = Math.max(ahead, 0);
            trial.wait[mate] = Math.max(-ahead, 0);
        }
    }

    /** Searches the best order of a platoon among all orders, the lowest trucks first. */
    private static final class BestOrder {
        private static final int MOST_ORDERS = 720;

        private final Plan plan;
        private final int[] order = new int[MOST_ORDERED];
        private int members = 0;

        final int[] best = new int[MOST_ORDERED];
        int value = 0;

        BestOrder(Plan plan) {
            this.plan = plan;
        }

        void search(int first, int after) {
            members = Math.min(after - first, MOST_ORDERED);
            takeMembers(first);
            boolean found = false;
            for (int orders = 0; orders < MOST_ORDERS; orders++) {
                int worth = plan.valueOfOrder(order, 0, members);
                if (!found || worth > value) {
                    found = true;
                    value = worth;
                    System.arraycopy(order, 0, best, 0, members);
                }
                if (!stepOn()) {
                    return;
                }
            }
        }

        /** Takes the members by their trucks, which is the first order of all. */
        private void takeMembers(int first) {
            for (int taken = 0; taken < members; taken++) {
                int stop = plan.row[first + taken];
                int to = taken;
                while (to > 0 && order[to - 1] > stop) {
                    order[to] = order[to - 1];
                    to--;
                }
                order[to] = stop;
            }
        }

        /** Goes on to the next order; false behind the last one. */
        private boolean stepOn() {
            int rise = members - 2;
            while (rise >= 0 && order[rise] > order[rise + 1]) {
                rise--;
            }
            if (rise < 0) {
                return false;
            }
            int greater = members - 1;
            while (greater > rise && order[greater] < order[rise]) {
                greater--;
            }
            swap(rise, greater);
            for (int left = rise + 1, right = members - 1; left < right; left++, right--) {
                swap(left, right);
            }
            return true;
        }

        private void swap(int left, int right) {
            int stop = order[left];
            order[left] = order[right];
            order[right] = stop;
        }
    }

    /** The choices ahead of the latest edits, in a ring, and the snapshots. */
    private static final class History {
        static final int SLOTS = 2;

        private static final int MOST_EDITS = 15;

        private final int[][] ahead = new int[MOST_EDITS][Plan.CHOICES];
        private int latest = 0;
        int edits = 0;

        private final int[][] snapshots = new int[SLOTS][Plan.CHOICES];
        final boolean[] isSaved = new boolean[SLOTS];

        void keep(Plan plan) {
            latest = (latest + 1) % MOST_EDITS;
            plan.writeChoices(ahead[latest]);
            edits = Math.min(edits + 1, MOST_EDITS);
        }

        void takeBack(Plan plan) {
            plan.readChoices(ahead[latest]);
            latest = (latest + MOST_EDITS - 1) % MOST_EDITS;
            edits--;
        }

        void forgetEdits() {
            edits = 0;
        }

        void saveIn(int slot, Plan plan) {
            plan.writeChoices(snapshots[slot]);
            isSaved[slot] = true;
        }

        void restoreFrom(int slot, Plan plan) {
            plan.readChoices(snapshots[slot]);
        }

        void forgetSnapshots() {
            for (int slot = 0; slot < SLOTS; slot++) {
                isSaved[slot] = false;
            }
        }
    }

    /** The bytes of the latest write(). */
    private static final class Output {
        /** A place takes at most a space, two times of four digits, a minus sign, an asterisk and two digits. */
        private static final int MOST_BYTES = PLACES * 13;

        final byte[] bytes = new byte[MOST_BYTES];
        int length = 0;

        void put(int sign) {
            if (length < MOST_BYTES) {
                bytes[length] = (byte) sign;
                length++;
            }
        }

        void putNumber(int number) {
            for (int unit = 1000; unit >= 1; unit /= 10) {
                if (number >= unit || unit == 1) {
                    put('0' + number / unit % 10);
                }
            }
        }
    }
}
