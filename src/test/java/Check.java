import java.nio.charset.StandardCharsets;
import java.util.Arrays;
import java.util.function.IntUnaryOperator;

/** What the tests share: counting wrong answers, catching what a call throws, and bringing text into the input. */
final class Check {
    private static int wrong = 0;
    private static int asked = 0;

    /** What the next answers are about, for the report of a wrong one. */
    static String about = "";

    private Check() {
    }

    interface Call {
        long answer();
    }

    static void due(String call, long got, long want) {
        asked++;
        if (got != want) {
            wrong(call + " answered " + got + ", due is " + want);
        }
    }

    static void wrong(String report) {
        wrong++;
        System.out.println(about + report);
    }

    static int asked() {
        return asked;
    }

    static void due(String call, boolean got, boolean want) {
        due(call, got ? 1 : 0, want ? 1 : 0);
    }

    static void dueThrows(String call, Class<? extends RuntimeException> want, Call made) {
        asked++;
        String got;
        try {
            got = "answered " + made.answer();
        } catch (RuntimeException e) {
            if (e.getClass() == want) {
                return;
            }
            got = "threw " + e;
        }
        wrong(call + " " + got + ", due is " + want.getSimpleName());
    }

    static void dueIndex(String call, Call made) {
        dueThrows(call, IndexOutOfBoundsException.class, made);
    }

    static void dueArgument(String call, Call made) {
        dueThrows(call, IllegalArgumentException.class, made);
    }

    static void dueState(String call, Call made) {
        dueThrows(call, IllegalStateException.class, made);
    }

    /** The call throws next to the ends of a range, and for the least and the greatest int, but not at its ends. */
    static void dueOutside(String call, Class<? extends RuntimeException> want, int first, int last,
            IntUnaryOperator made) {
        for (int outside : new int[] {first - 1, last + 1, Integer.MIN_VALUE, Integer.MAX_VALUE}) {
            dueThrows(call + " of " + outside, want, () -> made.applyAsInt(outside));
        }
        dueNotThrown(call + " of " + first, () -> made.applyAsInt(first));
        dueNotThrown(call + " of " + last, () -> made.applyAsInt(last));
    }

    static void dueNotThrown(String call, Call made) {
        asked++;
        try {
            made.answer();
        } catch (RuntimeException e) {
            wrong(call + " threw " + e);
        }
    }

    /** Answers for one number after the other. */
    static void dueRow(String call, int first, IntUnaryOperator of, int... want) {
        for (int at = 0; at < want.length; at++) {
            due(call + " at " + (first + at), of.applyAsInt(first + at), want[at]);
        }
    }

    /** Appends a text, of at most 1500 bytes, to an empty input buffer. */
    static void type(TruckPlatoons x, String text) {
        byte[] bytes = Arrays.copyOf(text.getBytes(StandardCharsets.ISO_8859_1), (text.length() + 19) / 20 * 20);
        for (int at = 0; at < bytes.length; at += 20) {
            x.appendInput(word(bytes, at), word(bytes, at + 4), word(bytes, at + 8), word(bytes, at + 12),
                    word(bytes, at + 16));
        }
        due("truncateInput(" + text.length() + ")", x.truncateInput(text.length()), text.length());
    }

    static int word(byte[] bytes, int at) {
        return bytes[at] << 24 | (bytes[at + 1] & 255) << 16 | (bytes[at + 2] & 255) << 8 | bytes[at + 3] & 255;
    }

    static TruckPlatoons loaded(String text) {
        TruckPlatoons x = new TruckPlatoons();
        type(x, text);
        x.load();
        due("errorCode() of " + text, x.errorCode(), 0);
        return x;
    }

    static int play(TruckPlatoons x, String script) {
        type(x, script);
        return x.play();
    }

    static void dueLoadError(String text, int code, int position) {
        dueError(new TruckPlatoons(), text, true, code, position);
    }

    static void duePlayError(String text, int code, int position) {
        dueError(new TruckPlatoons(), text, false, code, position);
    }

    private static void dueError(TruckPlatoons x, String text, boolean load, int code, int position) {
        type(x, text);
        due((load ? "load() of " : "play() of ") + text, load ? x.load() : x.play(), TruckPlatoons.TEXT_ERROR);
        due("errorCode() of " + text, x.errorCode(), code);
        due("errorPosition() of " + text, x.errorPosition(), position);
        due("truncateInput(1) behind an error", x.truncateInput(1), TruckPlatoons.NONE);
    }

    static String written(TruckPlatoons x, int truck) {
        int length = x.write(truck);
        StringBuilder text = new StringBuilder();
        for (int at = 0; x.outputByte(at) != TruckPlatoons.NONE; at++) {
            text.append((char) x.outputByte(at));
        }
        due("write(" + truck + ")", length, text.length());
        return text.toString();
    }

    static void dueText(String call, String got, String want) {
        asked++;
        if (!got.equals(want)) {
            wrong(call + " answered " + got + ", due is " + want);
        }
    }

    static void end() {
        System.out.println(wrong == 0 ? asked + " answers are as due" : wrong + " answers are not as due");
        if (wrong != 0 || asked == 0) {
            System.exit(1);
        }
    }
}
