import java.lang.reflect.InvocationTargetException;
import java.lang.reflect.Method;
import java.nio.charset.StandardCharsets;
import java.util.ArrayList;
import java.util.Arrays;
import java.util.List;
import java.util.Random;

/**
 * Makes runs of calls, always the same ones, on the class and on the Model, and compares every answer.
 * With an argument: how many runs.
 */
public final class RandomTest {
    private static final List<Method> FACE = new ArrayList<>();
    private static int wrong = 0;
    private static long calls = 0;

    private final Random random;
    private final int run;
    private final TruckPlatoons real = new TruckPlatoons();
    private final Model model = new Model();
    private final StringBuilder told = new StringBuilder();
    private int used = 0;

    private RandomTest(int run) {
        this.run = run;
        random = new Random(run);
    }

    public static void main(String[] args) throws ReflectiveOperationException {
        for (Method method : TruckPlatoons.class.getDeclaredMethods()) {
            if (java.lang.reflect.Modifier.isPublic(method.getModifiers())) {
                FACE.add(method);
            }
        }
        FACE.sort((a, b) -> a.getName().compareTo(b.getName()));
        int runs = args.length > 0 ? Integer.parseInt(args[0]) : 400;
        for (int run = 0; run < runs && wrong < 5; run++) {
            new RandomTest(run).make();
        }
        System.out.println(calls + " calls in " + runs + " runs, " + wrong + " answers are not as due");
        if (wrong > 0) {
            System.exit(1);
        }
    }

    private void make() throws ReflectiveOperationException {
        int before = wrong;
        load(world());
        while (used < 490 && wrong == before) {
            int kind = random.nextInt(100);
            if (kind < 2) {
                load(random.nextInt(3) == 0 ? spoilt(world()) : world());
            } else if (kind < 6) {
                play(random.nextInt(4) == 0 ? spoilt(script()) : script());
            } else if (kind == 6 && used < 400) {
                pileUp(random.nextBoolean() ? world() : script());
            } else {
                any();
            }
        }
    }

    private int pick(int... values) {
        return values[random.nextInt(values.length)];
    }

    private void any() throws ReflectiveOperationException {
        Method method = FACE.get(random.nextInt(FACE.size()));
        String name = method.getName();
        boolean dear = name.equals("mergeAll") || name.equals("bestPartner");
        if (dear && model.count(2) > 50 && random.nextInt(10) > 0) {
            return;
        }
        if (name.equals("load") || name.equals("play") || name.equals("appendInput")) {
            return;
        }
        Object[] arguments = argumentsOf(name, method.getParameterCount());
        call(name, arguments);
        if (name.matches("set.*|merge.*|hurry|relax|undo|restore.*")) {
            call("digest");
            call("count", random.nextInt(10));
        }
    }

    private Object[] argumentsOf(String name, int count) {
        int truck = truck();
        int road = random.nextInt(12) == 0 ? pick(-1, model.count(0)) : random.nextInt(Math.max(1, model.count(0)));
        int what = random.nextInt(14) - 1;
        switch (name) {
            case "count":
                return new Object[] {what};
            case "road":
            case "onRoad":
                return new Object[] {road, name.equals("road") ? what : minute()};
            case "truck":
                return new Object[] {truck, what};
            case "place":
                return new Object[] {truck, place(truck), what};
            case "platoonOf":
            case "position":
            case "key":
                return new Object[] {truck, place(truck)};
            case "platoon":
            case "member":
            case "bestMember":
                return new Object[] {road, random.nextInt(5) - 1, random.nextInt(9) - 1};
            case "orderLoss":
                return new Object[] {road, random.nextInt(5) - 1};
            case "run":
                return new Object[] {truck, truck(), random.nextInt(5) - 1};
            case "together":
            case "pairSaved":
            case "common":
            case "reason":
            case "merge":
            case "gain":
                return new Object[] {truck, truck()};
            case "neededSpeed":
                return new Object[] {truck, place(truck), minute()};
            case "setWait":
                return new Object[] {truck, place(truck), pick(-1, 0, 0, 1, 10, 30, 120, 121, random.nextInt(121))};
            case "setSpeed":
                return new Object[] {truck, place(truck), pick(39, 40, 60, 80, 80, 100, 120, 121, random.nextInt(130))};
            case "setStart":
                return new Object[] {truck, pick(-1, 0, 10, 20, 2000, 2001, random.nextInt(200))};
            case "quickest":
                return new Object[] {node(), node()};
            case "outputByte":
                return new Object[] {random.nextInt(60) - 2};
            case "truncateInput":
                return new Object[] {pick(-1, 0, 0, 1)};
            case "saveSnapshot":
            case "restoreSnapshot":
                return new Object[] {pick(-1, 0, 0, 1, 1, 2)};
            default:
                return count == 0 ? new Object[0] : new Object[] {truck};
        }
    }

    private int truck() {
        return random.nextInt(15) == 0 ? pick(-1, model.count(1), 12) : random.nextInt(Math.max(1, model.count(1)));
    }

    private int place(int truck) {
        int places = truck < 0 || truck >= model.count(1) ? 1 : model.truck(truck, 3);
        return random.nextInt(15) == 0 ? pick(-1, places, 10) : random.nextInt(places);
    }

    private int minute() {
        return random.nextInt(20) == 0 ? pick(-1, 0, 20000, 20001) : random.nextInt(1200);
    }

    private int node() {
        return random.nextInt(15) == 0 ? pick(-1, 20, 19) : random.nextInt(6);
    }

    // texts

    private String world() {
        int nodes = 2 + random.nextInt(5);
        int roads = pick(0, 1, 3, 6, 10, 20, 30);
        int trucks = pick(0, 1, 2, 3, 5, 8, 12);
        List<int[]> made = new ArrayList<>();
        StringBuilder text = new StringBuilder();
        for (int road = 0; road < roads; road++) {
            int from = road == 0 ? 0 : random.nextInt(nodes);
            int to = (from + 1 + random.nextInt(nodes - 1)) % nodes;
            made.add(new int[] {from, to});
            text.append("road ").append(from).append(' ').append(to).append(' ')
                    .append(pick(1, 20, 60, 60, 300, 1 + random.nextInt(300))).append(' ')
                    .append(pick(40, 60, 80, 80, 100, 120, 40 + random.nextInt(81))).append(random.nextBoolean() ? ";" : " ;\n");
        }
        int start = random.nextInt(100);
        List<Integer> route = new ArrayList<>();
        for (int truck = 0; truck < trucks && roads > 0; truck++) {
            if (route.isEmpty() || random.nextInt(3) > 0) {
                route = route(made, route);
            }
            text.append("truck ").append(random.nextInt(4) > 0 ? start : random.nextInt(300)).append(' ')
                    .append(pick(0, 100, 300, 600, 1500, 10000, random.nextInt(1500))).append(' ')
                    .append(pick(5, 10, 10, 20, 33, 49, 50, 60));
            route.forEach(road -> text.append(' ').append(road));
            text.append(';');
        }
        return text.length() <= 1500 ? text.toString() : text.substring(0, 1500);
    }

    private List<Integer> route(List<int[]> roads, List<Integer> before) {
        List<Integer> route = new ArrayList<>();
        int places = pick(1, 2, 3, 5, 10);
        int kept = Math.min(random.nextInt(places + 1), before.size());
        route.addAll(before.subList(0, kept));
        for (int tries = 0; tries < 60 && route.size() < places; tries++) {
            int road = random.nextInt(roads.size());
            if (route.isEmpty() || roads.get(route.get(route.size() - 1))[1] == roads.get(road)[0]) {
                route.add(road);
            }
        }
        return route.isEmpty() ? List.of(0) : route;
    }

    private String script() {
        StringBuilder text = new StringBuilder();
        int commands = random.nextInt(20) == 0 ? 29 + random.nextInt(3) : random.nextInt(8);
        for (int command = 0; command < commands; command++) {
            int truck = Math.max(0, truck());
            int place = Math.max(0, place(truck));
            switch (random.nextInt(model.count(2) > 50 ? 12 : 13)) {
                case 0, 1 -> text.append("wait ").append(truck).append(' ').append(Math.min(place, 9)).append(' ')
                        .append(random.nextInt(121));
                case 2, 3 -> text.append("speed ").append(truck).append(' ').append(Math.min(place, 9)).append(' ')
                        .append(40 + random.nextInt(50));
                case 4, 5 -> text.append("start ").append(truck).append(' ').append(random.nextInt(120));
                case 6, 7, 8, 9 -> text.append("merge ").append(truck).append(' ').append(Math.max(0, truck()));
                case 10 -> text.append("hurry ").append(truck);
                case 11 -> text.append("relax ").append(truck);
                default -> text.append("all");
            }
            text.append(random.nextBoolean() ? ";" : " ; ");
        }
        return text.toString();
    }

    private String spoilt(String text) {
        StringBuilder changed = new StringBuilder(text);
        for (int changes = 1 + random.nextInt(2); changes > 0 && changed.length() > 0; changes--) {
            int at = random.nextInt(changed.length());
            String sign = String.valueOf("0123456789 ;\n\tazAZ-\u00ff\u0000".charAt(random.nextInt(21)));
            switch (random.nextInt(4)) {
                case 0 -> changed.deleteCharAt(at);
                case 1 -> changed.insert(at, sign);
                case 2 -> changed.replace(at, at + 1, sign);
                default -> changed.setLength(at);
            }
        }
        return changed.length() <= 1500 ? changed.toString() : changed.substring(0, 1500);
    }

    private void load(String text) throws ReflectiveOperationException {
        type(text);
        call("load");
        behindText();
    }

    private void play(String text) throws ReflectiveOperationException {
        type(text);
        call("play");
        behindText();
        call("digest");
        call("count", 8);
    }

    /** Texts one behind the other, some cut off, until nothing more can be appended; rarely they are read then. */
    private void pileUp(String text) throws ReflectiveOperationException {
        int appends = random.nextInt(10) == 0 ? 77 : random.nextInt(9);
        byte[] bytes = Arrays.copyOf(text.getBytes(StandardCharsets.ISO_8859_1), 1500);
        for (int append = 0; append < appends; append++) {
            append(bytes, append % 75 * 20);
            if (appends < 77 && random.nextInt(6) == 0) {
                call("truncateInput", random.nextInt(append * 20 + 40) - 10);
            }
        }
        told.append("piled up: ").append(text).append('\n');
        if (random.nextInt(3) == 0) {
            call(random.nextBoolean() ? "load" : "play");
            behindText();
            call("digest");
        }
    }

    private void append(byte[] bytes, int at) throws ReflectiveOperationException {
        call("appendInput", Check.word(bytes, at), Check.word(bytes, at + 4), Check.word(bytes, at + 8),
                Check.word(bytes, at + 12), Check.word(bytes, at + 16));
    }

    private void behindText() throws ReflectiveOperationException {
        call("errorCode");
        call("errorPosition");
    }

    private void type(String text) throws ReflectiveOperationException {
        call("truncateInput", 0);
        byte[] bytes = Arrays.copyOf(text.getBytes(StandardCharsets.ISO_8859_1), (text.length() + 19) / 20 * 20);
        for (int at = 0; at < bytes.length; at += 20) {
            append(bytes, at);
        }
        call("truncateInput", text.length());
        told.append("text: ").append(text).append('\n');
    }

    // both sides

    private void call(String name, Object... arguments) throws ReflectiveOperationException {
        Class<?>[] types = new Class<?>[arguments.length];
        Arrays.fill(types, int.class);
        Object got = answer(TruckPlatoons.class.getDeclaredMethod(name, types), real, arguments);
        Object want = answer(Model.class.getDeclaredMethod(name, types), model, arguments);
        used++;
        calls++;
        String line = name + Arrays.toString(arguments) + " -> " + got;
        told.append(line).append('\n');
        if (!got.equals(want)) {
            wrong++;
            System.out.println("run " + run + "\n" + told + line + ", due is " + want);
        }
    }

    private static Object answer(Method method, Object of, Object[] arguments) throws ReflectiveOperationException {
        try {
            return method.invoke(of, arguments);
        } catch (InvocationTargetException e) {
            return "throws." + e.getCause().getClass().getSimpleName();
        }
    }
}
