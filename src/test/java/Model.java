import java.nio.charset.StandardCharsets;
import java.util.ArrayDeque;
import java.util.ArrayList;
import java.util.Arrays;
import java.util.Collections;
import java.util.Comparator;
import java.util.Deque;
import java.util.List;
import java.util.TreeMap;

/**
 * The document once more, written from its words alone and without a thought for speed: nothing is kept but the
 * choices, everything else is worked out anew for each answer. RandomTest holds the class against it.
 */
final class Model {
    static final int NONE = -1;
    static final int TEXT_ERROR = -2;
    static final int REFUSED = -3;

    record Road(int from, int to, int length, int limit) {
    }

    record Stop(int truck, int place) {
    }

    static final class Truck {
        int start;
        int deadline;
        int gap;
        List<Integer> route = new ArrayList<>();
        int[] waits;
        int[] speeds;

        Truck copy() {
            Truck copy = new Truck();
            copy.start = start;
            copy.deadline = deadline;
            copy.gap = gap;
            copy.route = route;
            copy.waits = waits.clone();
            copy.speeds = speeds.clone();
            return copy;
        }
    }

    private byte[] buffer = new byte[0];
    private List<Road> roads = new ArrayList<>();
    private List<Truck> trucks = new ArrayList<>();
    private final Deque<List<Truck>> edits = new ArrayDeque<>();
    private final List<List<Truck>> snapshots = new ArrayList<>(Arrays.asList(null, null));
    private String output = "";
    private int errorCode = 0;
    private int errorPosition = NONE;

    // the input

    int appendInput(int w0, int w1, int w2, int w3, int w4) {
        if (buffer.length + 20 > 1500) {
            return NONE;
        }
        int[] words = {w0, w1, w2, w3, w4};
        byte[] longer = Arrays.copyOf(buffer, buffer.length + 20);
        for (int i = 0; i < 20; i++) {
            longer[buffer.length + i] = (byte) (words[i / 4] >>> (24 - i % 4 * 8));
        }
        buffer = longer;
        return buffer.length;
    }

    int truncateInput(int length) {
        if (length < 0 || length > buffer.length) {
            return NONE;
        }
        buffer = Arrays.copyOf(buffer, length);
        return length;
    }

    private static final class TextError extends Exception {
        private static final long serialVersionUID = 1;
        final int code;
        final int position;

        TextError(int code, int position) {
            this.code = code;
            this.position = position;
        }
    }

    /** Takes the tokens of a text from the left. */
    private static final class Tokens {
        final String text;
        int at = 0;
        int begin = 0;

        Tokens(byte[] bytes) {
            text = new String(bytes, StandardCharsets.ISO_8859_1);
        }

        /** The next token, "" at the end. */
        String take() throws TextError {
            while (at < text.length() && " \n".indexOf(text.charAt(at)) >= 0) {
                at++;
            }
            begin = at;
            String rest = text.substring(at);
            if (rest.isEmpty()) {
                return "";
            }
            String token = ";";
            if (!rest.startsWith(";")) {
                String digits = rest.replaceFirst("(?s)[^0-9].*", "");
                String letters = rest.replaceFirst("(?s)[^a-z].*", "");
                token = digits + letters;
                if (token.isEmpty() || digits.length() > 5 || letters.length() > 8) {
                    throw new TextError(1, begin);
                }
            }
            at += token.length();
            return token;
        }

        int number(int least, int most) throws TextError {
            String token = take();
            if (!token.matches("[0-9]+")) {
                throw new TextError(1, begin);
            }
            int number = Integer.parseInt(token);
            if (number < least || number > most) {
                throw new TextError(2, begin);
            }
            return number;
        }

        boolean isEndAhead() {
            return text.substring(at).matches("(?s)[ \n]*;.*");
        }

        void end() throws TextError {
            if (!take().equals(";")) {
                throw new TextError(1, begin);
            }
        }
    }

    private byte[] takeBuffer() {
        byte[] bytes = buffer;
        buffer = new byte[0];
        errorCode = 0;
        errorPosition = NONE;
        return bytes;
    }

    private int textError(TextError error) {
        errorCode = error.code;
        errorPosition = error.position;
        return TEXT_ERROR;
    }

    int load() {
        Tokens tokens = new Tokens(takeBuffer());
        List<Road> newRoads = new ArrayList<>();
        List<Truck> newTrucks = new ArrayList<>();
        try {
            for (String word = tokens.take(); !word.isEmpty(); word = tokens.take()) {
                if (word.equals("road")) {
                    if (newRoads.size() == 30) {
                        throw new TextError(4, tokens.begin);
                    }
                    int from = tokens.number(0, 19);
                    int to = tokens.number(0, 19);
                    if (to == from) {
                        throw new TextError(3, tokens.begin);
                    }
                    newRoads.add(new Road(from, to, tokens.number(1, 300), tokens.number(40, 120)));
                    tokens.end();
                } else if (word.equals("truck")) {
                    if (newTrucks.size() == 12) {
                        throw new TextError(4, tokens.begin);
                    }
                    newTrucks.add(readTruck(tokens, newRoads));
                } else {
                    throw new TextError(1, tokens.begin);
                }
            }
        } catch (TextError error) {
            return textError(error);
        }
        roads = newRoads;
        trucks = newTrucks;
        edits.clear();
        Collections.fill(snapshots, null);
        return trucks.size();
    }

    private static Truck readTruck(Tokens tokens, List<Road> roads) throws TextError {
        Truck truck = new Truck();
        truck.start = tokens.number(0, 2000);
        truck.deadline = tokens.number(0, 10000);
        truck.gap = tokens.number(5, 60);
        do {
            int road = tokens.number(0, roads.size() - 1);
            int count = truck.route.size();
            if (count > 0 && roads.get(truck.route.get(count - 1)).to != roads.get(road).from) {
                throw new TextError(3, tokens.begin);
            }
            if (count == 10) {
                throw new TextError(4, tokens.begin);
            }
            truck.route.add(road);
        } while (!tokens.isEndAhead());
        tokens.end();
        truck.waits = new int[truck.route.size()];
        truck.speeds = truck.route.stream().mapToInt(road -> Math.min(80, roads.get(road).limit)).toArray();
        return truck;
    }

    int errorCode() {
        return errorCode;
    }

    int errorPosition() {
        return errorPosition;
    }

    // times and platoons

    private Road roadAt(Stop stop) {
        return roads.get(trucks.get(stop.truck).route.get(stop.place));
    }

    private int roadNumber(Stop stop) {
        return trucks.get(stop.truck).route.get(stop.place);
    }

    private int speed(Stop stop) {
        return trucks.get(stop.truck).speeds[stop.place];
    }

    private static int roundedUp(int dividend, int divisor) {
        return dividend / divisor + (dividend % divisor == 0 ? 0 : 1);
    }

    private int ready(Stop stop) {
        return stop.place == 0 ? trucks.get(stop.truck).start : leave(new Stop(stop.truck, stop.place - 1));
    }

    private int enter(Stop stop) {
        return ready(stop) + trucks.get(stop.truck).waits[stop.place];
    }

    private int leave(Stop stop) {
        return enter(stop) + roundedUp(roadAt(stop).length * 60, speed(stop));
    }

    private int arrival(int truck) {
        return leave(new Stop(truck, trucks.get(truck).route.size() - 1));
    }

    private boolean late(int truck) {
        return arrival(truck) > trucks.get(truck).deadline;
    }

    private List<Stop> stopsOf(int truck) {
        List<Stop> stops = new ArrayList<>();
        for (int place = 0; place < trucks.get(truck).route.size(); place++) {
            stops.add(new Stop(truck, place));
        }
        return stops;
    }

    private List<Stop> allStops() {
        List<Stop> stops = new ArrayList<>();
        for (int truck = 0; truck < trucks.size(); truck++) {
            stops.addAll(stopsOf(truck));
        }
        return stops;
    }

    private int shared(Stop a, Stop b) {
        List<Integer> restA = trucks.get(a.truck).route.subList(a.place, trucks.get(a.truck).route.size());
        List<Integer> restB = trucks.get(b.truck).route.subList(b.place, trucks.get(b.truck).route.size());
        int places = 0;
        while (places < restA.size() && places < restB.size() && restA.get(places).equals(restB.get(places))) {
            places++;
        }
        return places;
    }

    private int keyIn(List<Stop> members, Stop stop) {
        return members.stream().filter(other -> other.truck != stop.truck).mapToInt(other -> shared(stop, other))
                .max().orElse(0);
    }

    /** The platoons of a road, each in its ORDER. */
    private List<List<Stop>> platoons(int road) {
        TreeMap<Integer, List<Stop>> byTime = new TreeMap<>();
        for (Stop stop : allStops()) {
            if (roadNumber(stop) == road) {
                byTime.computeIfAbsent(enter(stop) * 1000 + speed(stop), time -> new ArrayList<>()).add(stop);
            }
        }
        for (List<Stop> members : byTime.values()) {
            List<Stop> asTheyAre = List.copyOf(members);
            members.sort(Comparator.comparing((Stop stop) -> -keyIn(asTheyAre, stop)).thenComparing(Stop::truck));
        }
        return new ArrayList<>(byTime.values());
    }

    private List<List<Stop>> allPlatoons() {
        List<List<Stop>> all = new ArrayList<>();
        for (int road = 0; road < roads.size(); road++) {
            all.addAll(platoons(road));
        }
        return all;
    }

    private List<Stop> platoonWith(Stop stop) {
        return platoons(roadNumber(stop)).stream().filter(members -> members.contains(stop)).findFirst().orElseThrow();
    }

    private int base(Stop stop) {
        return roadAt(stop).length * (150 + speed(stop) * speed(stop) / 40);
    }

    private int distanceIn(List<Stop> order, int at) {
        return Math.max(trucks.get(order.get(at).truck).gap, trucks.get(order.get(at - 1).truck).gap);
    }

    private int savedIn(List<Stop> order, int at) {
        if (order.size() == 1) {
            return 0;
        }
        int share = Math.max(0, 150 - 3 * distanceIn(order, at == 0 ? 1 : at));
        return base(order.get(at)) * (at == 0 ? share / 4 : share) / 1000;
    }

    /** NEXT, -1 for none. */
    private int next(Stop stop) {
        List<Integer> route = trucks.get(stop.truck).route;
        return stop.place + 1 < route.size() ? route.get(stop.place + 1) : -1;
    }

    private boolean closesIn(List<Stop> order, int at) {
        int next = next(order.get(at));
        boolean splitAhead = at > 0 && next >= 0 && next(order.get(at - 1)) != next;
        return splitAhead && order.subList(0, at - 1).stream().anyMatch(ahead -> next(ahead) == next);
    }

    private int saved(Stop stop) {
        List<Stop> order = platoonWith(stop);
        return savedIn(order, order.indexOf(stop));
    }

    private boolean closes(Stop stop) {
        List<Stop> order = platoonWith(stop);
        return closesIn(order, order.indexOf(stop));
    }

    private int fuel(Stop stop) {
        return base(stop) - saved(stop) + (closes(stop) ? 300 : 0);
    }

    private int fuelOfAll() {
        int sum = 0;
        for (List<Stop> order : allPlatoons()) {
            for (int at = 0; at < order.size(); at++) {
                sum += base(order.get(at)) - savedIn(order, at) + (closesIn(order, at) ? 300 : 0);
            }
        }
        return sum;
    }

    private int savedIn(List<Stop> order) {
        int sum = 0;
        for (int at = 0; at < order.size(); at++) {
            sum += savedIn(order, at);
        }
        return sum;
    }

    private int closingsIn(List<Stop> order) {
        int found = 0;
        for (int at = 0; at < order.size(); at++) {
            found += closesIn(order, at) ? 1 : 0;
        }
        return found;
    }

    private static int setOf(List<Stop> stops) {
        return stops.stream().mapToInt(stop -> 1 << stop.truck).reduce(0, (a, b) -> a | b);
    }

    // checks

    private void needRoad(int road) {
        if (road < 0 || road >= roads.size()) {
            throw new IndexOutOfBoundsException();
        }
    }

    private void needTruck(int truck) {
        if (truck < 0 || truck >= trucks.size()) {
            throw new IndexOutOfBoundsException();
        }
    }

    private Stop needStop(int truck, int place) {
        needTruck(truck);
        if (place < 0 || place >= trucks.get(truck).route.size()) {
            throw new IndexOutOfBoundsException();
        }
        return new Stop(truck, place);
    }

    private List<Stop> needPlatoon(int road, int platoon) {
        needRoad(road);
        if (platoon < 0 || platoon >= platoons(road).size()) {
            throw new IndexOutOfBoundsException();
        }
        return platoons(road).get(platoon);
    }

    private static void needRange(int value, int least, int most) {
        if (value < least || value > most) {
            throw new IllegalArgumentException();
        }
    }

    // the answers

    int count(int what) {
        return switch (what) {
            case 0 -> roads.size();
            case 1 -> trucks.size();
            case 2 -> allStops().size();
            case 3 -> (int) allPlatoons().stream().filter(members -> members.size() >= 2).count();
            case 4 -> Integer.bitCount(lateOnes());
            case 5 -> fuelOfAll();
            case 6 -> allPlatoons().stream().mapToInt(this::savedIn).sum();
            case 7 -> 300 * allPlatoons().stream().mapToInt(this::closingsIn).sum();
            case 8 -> edits.size();
            case 9 -> allPlatoons().stream().mapToInt(List::size).max().orElse(0);
            default -> NONE;
        };
    }

    int road(int road, int what) {
        needRoad(road);
        return switch (what) {
            case 0 -> roads.get(road).from;
            case 1 -> roads.get(road).to;
            case 2 -> roads.get(road).length;
            case 3 -> roads.get(road).limit;
            case 4 -> platoons(road).size();
            case 5 -> (int) trucks.stream().filter(truck -> truck.route.contains(road)).count();
            default -> NONE;
        };
    }

    int truck(int truck, int what) {
        needTruck(truck);
        return switch (what) {
            case 0 -> trucks.get(truck).start;
            case 1 -> trucks.get(truck).deadline;
            case 2 -> trucks.get(truck).gap;
            case 3 -> trucks.get(truck).route.size();
            case 4 -> arrival(truck);
            case 5 -> stopsOf(truck).stream().mapToInt(stop -> roadAt(stop).length).sum();
            case 6 -> stopsOf(truck).stream().mapToInt(this::fuel).sum();
            case 7 -> stopsOf(truck).stream().mapToInt(this::saved).sum();
            case 8 -> (int) stopsOf(truck).stream().filter(this::closes).count();
            default -> NONE;
        };
    }

    int place(int truck, int place, int what) {
        Stop stop = needStop(truck, place);
        List<Stop> order = platoonWith(stop);
        int at = order.indexOf(stop);
        return switch (what) {
            case 0 -> roadNumber(stop);
            case 1 -> trucks.get(truck).waits[place];
            case 2 -> speed(stop);
            case 3 -> ready(stop);
            case 4 -> enter(stop);
            case 5 -> leave(stop);
            case 6 -> base(stop);
            case 7 -> saved(stop);
            case 8 -> fuel(stop);
            case 9 -> closes(stop) ? 1 : 0;
            case 10 -> at == 0 ? 0 : distanceIn(order, at);
            default -> NONE;
        };
    }

    int platoonOf(int truck, int place) {
        Stop stop = needStop(truck, place);
        return platoons(roadNumber(stop)).indexOf(platoonWith(stop));
    }

    int position(int truck, int place) {
        Stop stop = needStop(truck, place);
        return platoonWith(stop).indexOf(stop);
    }

    int key(int truck, int place) {
        Stop stop = needStop(truck, place);
        return keyIn(platoonWith(stop), stop);
    }

    int platoon(int road, int platoon, int what) {
        List<Stop> order = needPlatoon(road, platoon);
        return switch (what) {
            case 0 -> enter(order.get(0));
            case 1 -> speed(order.get(0));
            case 2 -> order.size();
            case 3 -> savedIn(order);
            case 4 -> closingsIn(order);
            case 5 -> setOf(order);
            default -> NONE;
        };
    }

    int member(int road, int platoon, int position) {
        List<Stop> order = needPlatoon(road, platoon);
        if (position < 0) {
            throw new IndexOutOfBoundsException();
        }
        return position < order.size() ? order.get(position).truck : NONE;
    }

    private static int positionOf(List<Stop> order, int truck) {
        for (int at = 0; at < order.size(); at++) {
            if (order.get(at).truck == truck) {
                return at;
            }
        }
        return -1;
    }

    int together(int truck, int other) {
        needTruck(truck);
        needTruck(other);
        if (truck == other) {
            return REFUSED;
        }
        return (int) allPlatoons().stream()
                .filter(order -> positionOf(order, truck) >= 0 && positionOf(order, other) >= 0).count();
    }

    int pairSaved(int truck, int other) {
        needTruck(truck);
        needTruck(other);
        if (truck == other) {
            return REFUSED;
        }
        int sum = 0;
        for (List<Stop> order : allPlatoons()) {
            int one = positionOf(order, truck);
            int two = positionOf(order, other);
            if (one >= 0 && two >= 0 && Math.abs(one - two) == 1) {
                sum += savedIn(order, Math.max(one, two));
                sum += Math.min(one, two) == 0 ? savedIn(order, 0) : 0;
            }
        }
        return sum;
    }

    /** Place of the one, place of the other, number of places. */
    private int[] runOf(int truck, int other) {
        for (Stop stop : stopsOf(truck)) {
            int place = trucks.get(other).route.indexOf(roadNumber(stop));
            if (place >= 0) {
                return new int[] {stop.place, place, shared(stop, new Stop(other, place))};
            }
        }
        return new int[] {NONE, NONE, 0};
    }

    int run(int truck, int other, int what) {
        needTruck(truck);
        needTruck(other);
        needRange(what, 0, 2);
        return truck == other ? REFUSED : runOf(truck, other)[what];
    }

    int common(int truck, int other) {
        needTruck(truck);
        needTruck(other);
        return (int) trucks.get(truck).route.stream().distinct().filter(trucks.get(other).route::contains).count();
    }

    int slack(int truck) {
        needTruck(truck);
        return trucks.get(truck).deadline - arrival(truck);
    }

    int neededSpeed(int truck, int place, int minute) {
        Stop stop = needStop(truck, place);
        needRange(minute, 0, 20000);
        for (int speed = 40; speed <= roadAt(stop).limit; speed++) {
            if (enter(stop) + roundedUp(roadAt(stop).length * 60, speed) <= minute) {
                return speed;
            }
        }
        return NONE;
    }

    // edits

    private List<Truck> copyOfTrucks() {
        List<Truck> copies = new ArrayList<>();
        trucks.forEach(truck -> copies.add(truck.copy()));
        return copies;
    }

    private void keepForUndo() {
        edits.addLast(copyOfTrucks());
        if (edits.size() > 15) {
            edits.removeFirst();
        }
    }

    int setWait(int truck, int place, int minutes) {
        needStop(truck, place);
        needRange(minutes, 0, 120);
        keepForUndo();
        int previous = trucks.get(truck).waits[place];
        trucks.get(truck).waits[place] = minutes;
        return previous;
    }

    int setSpeed(int truck, int place, int speed) {
        Stop stop = needStop(truck, place);
        needRange(speed, 40, roadAt(stop).limit);
        keepForUndo();
        int previous = speed(stop);
        trucks.get(truck).speeds[place] = speed;
        return previous;
    }

    int setStart(int truck, int minute) {
        needTruck(truck);
        needRange(minute, 0, 2000);
        keepForUndo();
        int previous = trucks.get(truck).start;
        trucks.get(truck).start = minute;
        return previous;
    }

    private void drive(int truck, int other) {
        int[] run = runOf(truck, other);
        int ready = ready(new Stop(truck, run[0]));
        int otherReady = ready(new Stop(other, run[1]));
        Truck one = trucks.get(truck);
        Truck two = trucks.get(other);
        for (int step = 0; step < run[2]; step++) {
            int speed = Math.min(one.speeds[run[0] + step], two.speeds[run[1] + step]);
            one.speeds[run[0] + step] = speed;
            two.speeds[run[1] + step] = speed;
            one.waits[run[0] + step] = 0;
            two.waits[run[1] + step] = 0;
        }
        if (ready < otherReady) {
            one.waits[run[0]] = otherReady - ready;
        } else {
            two.waits[run[1]] = ready - otherReady;
        }
    }

    int reason(int truck, int other) {
        needTruck(truck);
        needTruck(other);
        if (truck == other) {
            return 1;
        }
        int[] run = runOf(truck, other);
        if (run[2] == 0) {
            return 2;
        }
        if (Math.abs(ready(new Stop(truck, run[0])) - ready(new Stop(other, run[1]))) > 120) {
            return 3;
        }
        boolean lateBefore = late(truck);
        boolean otherLateBefore = late(other);
        List<Truck> before = trucks;
        trucks = copyOfTrucks();
        drive(truck, other);
        boolean lateBehind = late(truck);
        boolean otherLateBehind = late(other);
        trucks = before;
        if (lateBehind && !lateBefore) {
            return 4;
        }
        return otherLateBehind && !otherLateBefore ? 5 : 0;
    }

    int merge(int truck, int other) {
        if (reason(truck, other) != 0) {
            return REFUSED;
        }
        keepForUndo();
        int places = runOf(truck, other)[2];
        drive(truck, other);
        return places;
    }

    int gain(int truck, int other) {
        if (reason(truck, other) != 0) {
            throw new IllegalStateException();
        }
        int before = fuelOfAll();
        List<Truck> kept = trucks;
        trucks = copyOfTrucks();
        drive(truck, other);
        int behind = fuelOfAll();
        trucks = kept;
        return before - behind;
    }

    int bestPartner(int truck) {
        needTruck(truck);
        int best = NONE;
        for (int other = 0; other < trucks.size(); other++) {
            if (reason(truck, other) == 0 && gain(truck, other) > (best == NONE ? 0 : gain(truck, best))) {
                best = other;
            }
        }
        return best;
    }

    int mergeAll() {
        keepForUndo();
        int merges = 0;
        while (merges < 30) {
            int most = 0;
            int[] pair = null;
            for (int a = 0; a < trucks.size(); a++) {
                for (int b = a + 1; b < trucks.size(); b++) {
                    if (reason(a, b) == 0 && gain(a, b) > most) {
                        most = gain(a, b);
                        pair = new int[] {a, b};
                    }
                }
            }
            if (pair == null) {
                break;
            }
            drive(pair[0], pair[1]);
            merges++;
        }
        return merges;
    }

    int hurry(int truck) {
        needTruck(truck);
        keepForUndo();
        int changed = 0;
        for (Stop stop : stopsOf(truck)) {
            if (late(truck)) {
                changed += speed(stop) == roadAt(stop).limit ? 0 : 1;
                trucks.get(truck).speeds[stop.place] = roadAt(stop).limit;
            }
        }
        return changed;
    }

    int relax(int truck) {
        needTruck(truck);
        keepForUndo();
        int changed = 0;
        List<Stop> stops = stopsOf(truck);
        Collections.reverse(stops);
        for (Stop stop : stops) {
            int present = speed(stop);
            int[] speeds = trucks.get(truck).speeds;
            speeds[stop.place] = 40;
            while (speeds[stop.place] < present && late(truck)) {
                speeds[stop.place]++;
            }
            changed += speeds[stop.place] == present ? 0 : 1;
        }
        return changed;
    }

    // sets, searches and the rest

    int onRoad(int road, int minute) {
        needRoad(road);
        return setOf(allStops().stream().filter(stop -> roadNumber(stop) == road)
                .filter(stop -> enter(stop) <= minute && minute < leave(stop)).toList());
    }

    int alone() {
        int set = (1 << trucks.size()) - 1;
        for (List<Stop> order : allPlatoons()) {
            set &= order.size() > 1 ? ~setOf(order) : -1;
        }
        return set;
    }

    int lateOnes() {
        int set = 0;
        for (int truck = 0; truck < trucks.size(); truck++) {
            set |= late(truck) ? 1 << truck : 0;
        }
        return set;
    }

    int bestRoad() {
        int best = NONE;
        int most = 0;
        for (int road = 0; road < roads.size(); road++) {
            int saved = platoons(road).stream().mapToInt(this::savedIn).sum();
            if (saved > most) {
                most = saved;
                best = road;
            }
        }
        return best;
    }

    private int value(List<Stop> order) {
        return savedIn(order) - 300 * closingsIn(order);
    }

    private void addOrders(List<Stop> begun, List<Stop> rest, List<List<Stop>> orders) {
        if (rest.isEmpty()) {
            orders.add(begun);
        }
        for (Stop stop : rest) {
            List<Stop> longer = new ArrayList<>(begun);
            longer.add(stop);
            List<Stop> left = new ArrayList<>(rest);
            left.remove(stop);
            addOrders(longer, left, orders);
        }
    }

    private List<Stop> bestOrder(List<Stop> members) {
        List<Stop> byTruck = new ArrayList<>(members);
        byTruck.sort(Comparator.comparing(Stop::truck));
        List<List<Stop>> orders = new ArrayList<>();
        addOrders(List.of(), byTruck, orders);
        int most = orders.stream().mapToInt(this::value).max().orElseThrow();
        return orders.stream().filter(order -> value(order) == most).findFirst().orElseThrow();
    }

    int orderLoss(int road, int platoon) {
        List<Stop> order = needPlatoon(road, platoon);
        if (order.size() > 6) {
            throw new IllegalStateException();
        }
        return value(bestOrder(order)) - value(order);
    }

    int bestMember(int road, int platoon, int position) {
        List<Stop> order = needPlatoon(road, platoon);
        if (position < 0) {
            throw new IndexOutOfBoundsException();
        }
        if (order.size() > 6) {
            throw new IllegalStateException();
        }
        return position < order.size() ? bestOrder(order).get(position).truck : NONE;
    }

    float rate(int truck) {
        return (float) truck(truck, 6) / (float) truck(truck, 5);
    }

    int shareBits() {
        if (trucks.isEmpty()) {
            throw new ArithmeticException();
        }
        return Float.floatToIntBits((float) count(6) / (float) allStops().stream().mapToInt(this::base).sum());
    }

    int quickest(int from, int to) {
        needRange(from, 0, 19);
        needRange(to, 0, 19);
        long[][] minutes = new long[20][20];
        for (int a = 0; a < 20; a++) {
            Arrays.fill(minutes[a], 1_000_000);
            minutes[a][a] = 0;
        }
        for (Road road : roads) {
            long own = roundedUp(road.length * 60, road.limit);
            minutes[road.from][road.to] = Math.min(own, minutes[road.from][road.to]);
        }
        for (int by = 0; by < 20; by++) {
            for (int a = 0; a < 20; a++) {
                for (int b = 0; b < 20; b++) {
                    minutes[a][b] = Math.min(minutes[a][b], minutes[a][by] + minutes[by][b]);
                }
            }
        }
        return minutes[from][to] >= 1_000_000 ? NONE : (int) minutes[from][to];
    }

    int write(int truck) {
        needTruck(truck);
        List<String> parts = new ArrayList<>();
        for (Stop stop : stopsOf(truck)) {
            List<Stop> order = platoonWith(stop);
            parts.add(enter(stop) + "-" + leave(stop) + (order.size() > 1 ? "*" + order.indexOf(stop) : ""));
        }
        output = String.join(" ", parts);
        return output.length();
    }

    int outputByte(int index) {
        return index < 0 || index >= output.length() ? NONE : output.charAt(index);
    }

    private record Command(String word, int[] numbers) {
    }

    int play() {
        Tokens tokens = new Tokens(takeBuffer());
        List<Command> commands = new ArrayList<>();
        try {
            for (String word = tokens.take(); !word.isEmpty(); word = tokens.take()) {
                if (!List.of("wait", "speed", "start", "merge", "hurry", "relax", "all").contains(word)) {
                    throw new TextError(1, tokens.begin);
                }
                if (commands.size() == 30) {
                    throw new TextError(4, tokens.begin);
                }
                commands.add(new Command(word, switch (word) {
                    case "wait" -> new int[] {tokens.number(0, 11), tokens.number(0, 9), tokens.number(0, 120)};
                    case "speed" -> new int[] {tokens.number(0, 11), tokens.number(0, 9), tokens.number(40, 120)};
                    case "start" -> new int[] {tokens.number(0, 11), tokens.number(0, 2000)};
                    case "merge" -> new int[] {tokens.number(0, 11), tokens.number(0, 11)};
                    case "all" -> new int[] {};
                    default -> new int[] {tokens.number(0, 11)};
                }));
                tokens.end();
            }
        } catch (TextError error) {
            return textError(error);
        }
        int done = 0;
        for (Command command : commands) {
            if (!perform(command.word, command.numbers)) {
                break;
            }
            done++;
        }
        return done;
    }

    private boolean perform(String word, int[] numbers) {
        try {
            switch (word) {
                case "wait" -> setWait(numbers[0], numbers[1], numbers[2]);
                case "speed" -> setSpeed(numbers[0], numbers[1], numbers[2]);
                case "start" -> setStart(numbers[0], numbers[1]);
                case "merge" -> {
                    return merge(numbers[0], numbers[1]) != REFUSED;
                }
                case "hurry" -> hurry(numbers[0]);
                case "relax" -> relax(numbers[0]);
                default -> mergeAll();
            }
            return true;
        } catch (IndexOutOfBoundsException | IllegalArgumentException e) {
            return false;
        }
    }

    int undo() {
        if (edits.isEmpty()) {
            return NONE;
        }
        trucks = edits.removeLast();
        return edits.size();
    }

    int digest() {
        int digest = 1;
        for (Stop stop : allStops()) {
            for (int value : new int[] {enter(stop), speed(stop), fuel(stop)}) {
                digest = 31 * digest + value;
            }
        }
        return digest;
    }

    boolean saveSnapshot(int slot) {
        if (slot != 0 && slot != 1) {
            return false;
        }
        snapshots.set(slot, copyOfTrucks());
        return true;
    }

    boolean restoreSnapshot(int slot) {
        if (slot != 0 && slot != 1 || snapshots.get(slot) == null) {
            return false;
        }
        trucks = snapshots.get(slot);
        trucks = copyOfTrucks();
        edits.clear();
        return true;
    }
}
