import java.nio.ByteBuffer;
import java.nio.charset.StandardCharsets;
import java.util.Arrays;

/** The example of README.md, which quotes this file whole. */
public final class Example {
    private static final String WORLD = """
            road 0 1 60 100; road 1 2 100 90; road 1 3 40 60;
            truck 0 500 10 0 1; truck 10 500 20 0 2; truck 30 500 30 0 1;
            """;

    public static void main(String[] args) {
        TruckPlatoons planner = new TruckPlatoons();
        put(planner, WORLD);
        System.out.println(planner.load() + " trucks need " + planner.count(5) + " milliliters");

        System.out.println("merging 0 and 2 would save " + planner.gain(0, 2));
        System.out.println("mergeAll() merged " + planner.mergeAll() + " times, which saves " + planner.count(6));
        for (int truck = 0; truck < planner.count(1); truck++) {
            System.out.println("truck " + truck + ": " + plan(planner, truck));
        }

        put(planner, "wait 1 0 5; merge 1 1; hurry 2;");
        System.out.println("done of the script: " + planner.play());
        System.out.println("to be undone, behind undo(): " + planner.undo());

        put(planner, "wait 1 0 500;");
        if (planner.play() == TruckPlatoons.TEXT_ERROR) {
            System.out.println("error " + planner.errorCode() + " at byte " + planner.errorPosition());
        }
        System.out.println("merging 1 and 1: " + planner.merge(1, 1) + ", reason " + planner.reason(1, 1));
        try {
            planner.truck(3, 0);
        } catch (IndexOutOfBoundsException e) {
            System.out.println("there is no truck 3");
        }
    }

    /** Appends a text to the input buffer, 20 bytes a call; what fills up the last 20 is cut off again. */
    private static void put(TruckPlatoons planner, String text) {
        byte[] bytes = Arrays.copyOf(text.getBytes(StandardCharsets.US_ASCII), (text.length() + 19) / 20 * 20);
        ByteBuffer words = ByteBuffer.wrap(bytes);
        int length = 0;
        while (words.hasRemaining() && length != TruckPlatoons.NONE) {
            length = planner.appendInput(words.getInt(), words.getInt(), words.getInt(), words.getInt(),
                    words.getInt());
        }
        planner.truncateInput(length - bytes.length + text.length());
    }

    /** What write() puts into the output. */
    private static String plan(TruckPlatoons planner, int truck) {
        int length = planner.write(truck);
        StringBuilder plan = new StringBuilder();
        for (int at = 0; at < length; at++) {
            plan.append((char) planner.outputByte(at));
        }
        return plan.toString();
    }
}
