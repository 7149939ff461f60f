/** Promises 32 to 42 and 45: sets, the best road and order, rates, ways, the output and the digest. */
public final class SetsTest {
    private static final TruckPlatoons FORK = Check.loaded(Worlds.FORK);
    private static final TruckPlatoons ZIP = Check.loaded(Worlds.ZIP);

    public static void main(String[] args) {
        onRoad();
        aloneAndLate();
        bestRoad();
        orders();
        closingUpInOrders();
        greatOrders();
        rates();
        quickest();
        output();
        digest();
        Check.end();
    }

    private static void onRoad() {
        int[] minutes = {-1, 0, 4, 5, 44, 45, 49, 50, Integer.MAX_VALUE, Integer.MIN_VALUE};
        int[] sets = {0, 7, 7, 15, 15, 8, 8, 0, 0, 0};
        for (int at = 0; at < minutes.length; at++) {
            Check.due("onRoad(0, " + minutes[at] + ")", FORK.onRoad(0, minutes[at]), sets[at]);
        }
        Check.due("onRoad(1, 45)", FORK.onRoad(1, 45), 5);
        Check.due("onRoad(2, 84)", FORK.onRoad(2, 84), 2);
        Check.dueIndex("onRoad(-1, 0)", () -> FORK.onRoad(-1, 0));
        Check.dueIndex("onRoad(3, 0)", () -> FORK.onRoad(3, 0));
        // while it waits ahead of a road, a truck is on none
        TruckPlatoons x = Check.loaded(Worlds.FORK);
        x.setWait(0, 1, 10);
        Check.due("onRoad(1, 54) while waiting", x.onRoad(1, 54), 4);
        Check.due("onRoad(1, 55) behind waiting", x.onRoad(1, 55), 5);
    }

    private static void aloneAndLate() {
        Check.due("alone() of FORK", FORK.alone(), 8);
        Check.due("alone() of ZIP", ZIP.alone(), 0);
        Check.due("alone() without trucks", new TruckPlatoons().alone(), 0);
        Check.due("lateOnes() of FORK", FORK.lateOnes(), 4);
        Check.due("lateOnes() of ZIP", ZIP.lateOnes(), 0);
        TruckPlatoons x = Check.loaded("road 0 1 60 80;truck 0 45 10 0;truck 0 44 10 0;truck 1 45 10 0;");
        Check.due("lateOnes() to the minute", x.lateOnes(), 6);
        Check.due("alone() of other minutes", x.alone(), 4);
        x.setSpeed(1, 0, 79);
        Check.due("alone() of other SPEEDs", x.alone(), 7);
        Check.due("lateOnes() with truck 0", Check.loaded("road 0 1 60 80;truck 1 45 10 0;").lateOnes(), 1);
        // a truck of ten places, none of which it shares, ahead of two that are together
        String ten = " 0 1 0 1 0 1 0 1 0 1;";
        TruckPlatoons y = Check.loaded("road 0 1 60 80;road 1 0 60 80;truck 0 900 10" + ten + "truck 1 900 10" + ten
                + "truck 1 900 10" + ten);
        Check.due("alone() of ten places", y.alone(), 1);
        Check.due("saved of ten places", y.truck(0, 7), 0);
    }

    private static void bestRoad() {
        Check.due("bestRoad() of FORK", FORK.bestRoad(), 0);
        // 310 * 6 / 1000 is 1 and a rest
        Check.due("bestRoad() that saves 1",
                Check.loaded("road 0 1 1 80;truck 0 900 48 0;truck 0 900 48 0;").bestRoad(), 0);
        Check.due("bestRoad() without trucks", new TruckPlatoons().bestRoad(), -1);
        Check.due("bestRoad() without platoons", Check.loaded(Worlds.apart(1, 900, 900)).bestRoad(), -1);
        Check.due("bestRoad() of the same savings", Check.loaded(Worlds.apart(0, 900, 900)).bestRoad(), 0);
        Check.due("bestRoad() that is not the first",
                Check.loaded("road 0 1 60 80;road 1 2 61 80;truck 0 900 10 0 1;truck 0 900 10 0 1;").bestRoad(), 1);
    }

    private static void order(String call, TruckPlatoons x, int road, int platoon, int... want) {
        for (int at = 0; at < want.length; at++) {
            Check.due(call + " at " + at, x.bestMember(road, platoon, at), want[at]);
        }
        Check.due(call + " behind the last", x.bestMember(road, platoon, want.length), -1);
    }

    private static void orders() {
        Check.due("orderLoss(0, 0) of ZIP", ZIP.orderLoss(0, 0), 600);
        order("bestMember() of ZIP", ZIP, 0, 0, 0, 2, 1, 3);
        Check.due("orderLoss() of a lone truck", FORK.orderLoss(0, 1), 0);
        order("bestMember() of a lone truck", FORK, 0, 1, 3);
        // GAPs 10 20 30: 0 1 2 and 1 0 2 have the distances 20 and 30, s 90 and 60, a quarter of 90 is 22, but in the
        // former 2 closes up to 0; with 2 between or ahead, 30 comes twice or first
        Check.due("orderLoss() by GAPs", FORK.orderLoss(0, 0), 18600 * 90 / 1000 + 18600 * 22 / 1000
                - 18600 * 60 / 1000 - 18600 * 15 / 1000);
        order("bestMember() by GAPs", FORK, 0, 0, 1, 0, 2);
        Check.due("position() behind it", FORK.position(2, 0), 1);
        for (int road = -1; road <= 3; road += 4) {
            int none = road;
            Check.dueIndex("orderLoss(" + none + ", 0)", () -> FORK.orderLoss(none, 0));
            Check.dueIndex("bestMember(" + none + ", 0, 0)", () -> FORK.bestMember(none, 0, 0));
        }
        for (int platoon = -1; platoon <= 2; platoon += 3) {
            int none = platoon;
            Check.dueIndex("orderLoss(0, " + none + ")", () -> FORK.orderLoss(0, none));
            Check.dueIndex("bestMember(0, " + none + ", 0)", () -> FORK.bestMember(0, none, 0));
        }
        // the ORDER is 1 2 0 by the KEYs, which pays as much as 0 1 2
        TruckPlatoons x = Check.loaded("road 0 1 60 80;road 1 2 60 80;truck 0 900 10 0;truck 0 900 10 0 1;"
                + "truck 0 900 10 0 1;");
        Check.due("position() of the least KEY", x.position(0, 0), 2);
        Check.due("position() of the greatest KEY", x.position(1, 0), 0);
        order("bestMember() of like orders", x, 0, 0, 0, 1, 2);
        Check.due("orderLoss() of like orders", x.orderLoss(0, 0), 0);
        Check.dueIndex("bestMember(0, 0, -1)", () -> FORK.bestMember(0, 0, -1));
    }

    /**
     * Truck 1 ends behind road 0. The ORDER 0 2 1 has the distance 11 twice; 0 1 2 has 10 and 11, but 2 closes up to 0
     * behind one that has no NEXT; 1 0 2 has 10 and 11, too, and nobody closes up.
     */
    private static void closingUpInOrders() {
        TruckPlatoons x = Check.loaded("road 0 1 60 80;road 1 2 60 80;"
                + "truck 0 900 10 0 1;truck 0 900 10 0;truck 0 900 11 0 1;");
        Check.due("position(1, 0)", x.position(1, 0), 2);
        order("bestMember() behind one that ends", x, 0, 0, 1, 0, 2);
        Check.due("orderLoss() behind one that ends", x.orderLoss(0, 0), 18600 * 120 / 1000 + 18600 * 30 / 1000
                - 18600 * 117 / 1000 - 18600 * 29 / 1000);
    }

    private static void greatOrders() {
        String truck = "truck 0 900 10 0;";
        TruckPlatoons six = Check.loaded("road 0 1 60 80;" + truck.repeat(6));
        Check.due("orderLoss() of six", six.orderLoss(0, 0), 0);
        order("bestMember() of six", six, 0, 0, 0, 1, 2, 3, 4, 5);
        TruckPlatoons seven = Check.loaded("road 0 1 60 80;" + truck.repeat(7));
        Check.dueState("orderLoss() of seven", () -> seven.orderLoss(0, 0));
        Check.dueState("bestMember() of seven", () -> seven.bestMember(0, 0, 0));
        Check.dueState("bestMember() of seven, far behind", () -> seven.bestMember(0, 0, 9));
        Check.dueIndex("bestMember() of seven, ahead", () -> seven.bestMember(0, 0, -1));
        // the widest GAP at the end, where it costs one distance, and not the two first ones
        TruckPlatoons wide = Check.loaded("road 0 1 60 80;truck 0 900 40 0;" + truck.repeat(5));
        order("bestMember() with a wide GAP", wide, 0, 0, 1, 2, 3, 4, 5, 0);
        Check.due("orderLoss() with a wide GAP", wide.orderLoss(0, 0), 18600 * 30 / 1000 - 18600 * 7 / 1000);
    }

    private static void rates() {
        Check.due("rate(0)", Float.floatToIntBits(FORK.rate(0)), Float.floatToIntBits(48856f / 160f));
        Check.due("rate(3)", Float.floatToIntBits(FORK.rate(3)), Float.floatToIntBits(310f));
        Check.due("rate() of one kilometer", (long) Check.loaded("road 0 1 1 80;truck 0 9 5 0;").rate(0), 310);
        Check.dueIndex("rate(-1)", () -> (long) FORK.rate(-1));
        Check.dueIndex("rate(4)", () -> (long) FORK.rate(4));
        Check.due("shareBits() of FORK", FORK.shareBits(), Float.floatToIntBits(4836f / 146000f));
        Check.due("shareBits() of ZIP", ZIP.shareBits(), Float.floatToIntBits(12834f / 148800f));
        Check.due("shareBits() of 0", Check.loaded("road 0 1 60 80;truck 0 0 5 0;").shareBits(), 0);
        Check.dueThrows("shareBits() without trucks", ArithmeticException.class, () -> new TruckPlatoons().shareBits());
        Check.dueThrows("shareBits() with roads alone", ArithmeticException.class,
                () -> Check.loaded("road 0 1 60 80;").shareBits());
    }

    private static void quickest() {
        // 61 at 60 takes 61 minutes; 10 at 70 takes 8 and a rest
        TruckPlatoons x = Check.loaded("road 0 1 61 60;road 1 2 10 70;road 0 2 300 120;road 2 19 60 120;"
                + "road 0 1 80 120;road 19 0 1 120;");
        Check.due("quickest(0, 1), over the longer road", x.quickest(0, 1), 40);
        Check.due("quickest(0, 2), over two roads", x.quickest(0, 2), 49);
        Check.due("quickest(0, 19)", x.quickest(0, 19), 79);
        Check.due("quickest(1, 0), round", x.quickest(1, 0), 40);
        Check.due("quickest(19, 2), round", x.quickest(19, 2), 50);
        Check.due("quickest(0, 0)", x.quickest(0, 0), 0);
        Check.due("quickest(7, 7), without roads", x.quickest(7, 7), 0);
        Check.due("quickest(0, 7)", x.quickest(0, 7), -1);
        Check.due("quickest(7, 0)", x.quickest(7, 0), -1);
        // all nodes in one line, told from its end
        StringBuilder line = new StringBuilder();
        for (int node = 18; node >= 0; node--) {
            line.append("road ").append(node).append(' ').append(node + 1).append(" 1 60;");
        }
        Check.due("quickest() over 19 roads", Check.loaded(line.toString()).quickest(0, 19), 19);
        for (int none = -1; none <= 20; none += 21) {
            int node = none;
            Check.dueArgument("quickest(" + node + ", 0)", () -> x.quickest(node, 0));
            Check.dueArgument("quickest(0, " + node + ")", () -> x.quickest(0, node));
            Check.dueArgument("quickest(" + node + ", " + node + ")", () -> x.quickest(node, node));
        }
    }

    private static void output() {
        Check.dueText("write(3) of ZIP", Check.written(ZIP, 3), "0-45*3 45-90*1");
        Check.dueText("write(1) of FORK", Check.written(FORK, 1), "0-45*2 45-85");
        Check.dueText("write(3) of FORK", Check.written(FORK, 3), "5-50");
        Check.due("outputByte(-1)", FORK.outputByte(-1), -1);
        Check.due("outputByte(3)", FORK.outputByte(3), '0');
        Check.due("outputByte(4)", FORK.outputByte(4), -1);
        Check.due("outputByte(Integer.MAX_VALUE)", FORK.outputByte(Integer.MAX_VALUE), -1);
        Check.dueIndex("write(-1)", () -> FORK.write(-1));
        Check.dueIndex("write(4)", () -> FORK.write(4));
        Check.due("outputByte(0) behind an exception", FORK.outputByte(0), '5');
        // the longest output: ten places, four digits, two digits of the position
        String truck = "truck 1000 9999 5 0 1 0 1 0 1 0 1 0 1;";
        TruckPlatoons x = Check.loaded("road 0 1 300 40;road 1 0 300 40;" + truck.repeat(12));
        String text = Check.written(x, 11);
        Check.due("longest output", text.length(), 10 * 13 - 1);
        Check.dueText("its end", text.substring(text.length() - 12), "5050-5500*11");
        Check.dueText("its begin", text.substring(0, 13), "1000-1450*11 ");
    }

    private static void digest() {
        int want = 1;
        int[] values = {0, 80, 18321, 45, 80, 30535, 0, 80, 17484, 45, 60, 9600, 0, 80, 17484, 45, 80, 29140, 5, 80, 18600};
        for (int value : values) {
            want = 31 * want + value;
        }
        Check.due("digest() of FORK", FORK.digest(), want);
        Check.due("digest() without trucks", Check.loaded("road 0 1 9 50;").digest(), 1);
    }
}
