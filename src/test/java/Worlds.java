/** Small worlds whose numbers are worked out by hand in the tests. */
final class Worlds {
    private Worlds() {
    }

    /**
     * At SPEED 80 road 0 takes 45 minutes and has the BASE 60 * (150 + 160) = 18600; road 1 takes 75 minutes and has
     * the BASE 31000; road 2 takes 40 minutes at its LIMIT 60 and has the BASE 40 * (150 + 90) = 9600.
     *
     * On road 0 trucks 0, 1 and 2 are a platoon: 0 and 2 share two places, 1 shares one with either, so that the ORDER
     * is 0 2 1. Both distances are 30, s = 60: the two behind save 1116, the first one 18600 * 15 / 1000 = 279.
     * Truck 3 enters five minutes later. On road 1 trucks 0 and 2 save 31000 * 15 / 1000 = 465 and 1860.
     * Truck 2 arrives at 120 and is late by 20.
     */
    static final String FORK = "road 0 1 60 100;road 1 2 100 90;road 1 3 40 60;"
            + "truck 0 500 10 0 1;truck 0 500 20 0 2;truck 0 100 30 0 1;truck 5 500 10 0;";

    /**
     * All roads take 45 minutes and have the BASE 18600. On road 0 all KEYs are 2, so that the ORDER is 0 1 2 3, in
     * which 2 and 3 close up. All distances are 10, s = 120: one behind saves 2232, the first one 558.
     */
    static final String ZIP = "road 0 1 60 100;road 1 2 60 80;road 1 3 60 80;"
            + "truck 0 900 10 0 1;truck 0 900 10 0 2;truck 0 900 10 0 1;truck 0 900 10 0 2;";

    /** A world, found by a search, in which all mergings with a GAIN above 0 are 33. */
    static final String MANY = "road 0 1 24 63;road 1 0 36 95;road 1 0 255 69;road 0 1 118 103;road 0 1 18 79;road 0 1 78 67;"
            + "road 0 1 109 116;road 1 0 8 84;road 1 0 25 51;road 1 0 180 86;road 0 1 28 53;"
            + "truck 218 10000 27 7 3 9 6 2 6 7;truck 59 10000 30 2 10 2 10 7 4 2;truck 311 10000 49 9 3 7;"
            + "truck 388 10000 15 10 8 10 9 5 1;truck 58 10000 7 5 9 10 8 5 8 5 7 0;"
            + "truck 77 10000 38 2 0 1 10;truck 149 10000 6 1 6 7 6 1 4 7 3 8 4;"
            + "truck 125 10000 34 7 5 1 5 7 0 7 4 8;truck 52 10000 18 3 1 3 9 5 2;"
            + "truck 23 10000 36 7 6 7 4 8 5 1 0 7 3;truck 119 10000 35 4 2 3 9 4 2 4 1;"
            + "truck 13 10000 48 3 9 0 2 10;";

    /**
     * As many roads, trucks and places as there can be. All trucks go to and fro on the last two roads, of 11 minutes
     * and the BASE 9 * (150 + 62) = 1908; the last truck goes ten minutes later. Of those together, the first one saves
     * 57 at each place, each other one 228.
     */
    static final String FULL = "road 0 1 9 50;".repeat(29) + "road 1 0 9 50;"
            + "truck 0 999 10 28 29 28 29 28 29 28 29 28 29;".repeat(11)
            + "truck 10 999 10 28 29 28 29 28 29 28 29 28 29;";

    /** Two trucks on the same two roads of 45 minutes, ten minutes apart. */
    static String apart(int minutes, int deadline, int otherDeadline) {
        return "road 0 1 60 80;road 1 2 60 80;truck 0 " + deadline + " 10 0 1;truck " + minutes + " "
                + otherDeadline + " 10 0 1;";
    }

    /** All that the calls can change, but for the input, the error, the snapshots, and what undo() would bring. */
    static String state(TruckPlatoons x) {
        StringBuilder state = new StringBuilder();
        for (int what = 0; what < 10; what++) {
            state.append(x.count(what)).append(' ');
        }
        for (int truck = 0; truck < x.count(1); truck++) {
            state.append(x.truck(truck, 0)).append(':');
            for (int place = 0; place < x.truck(truck, 3); place++) {
                state.append(x.place(truck, place, 1)).append(' ');
            }
        }
        state.append(x.digest()).append(" \"");
        for (int at = 0; x.outputByte(at) != TruckPlatoons.NONE; at++) {
            state.append((char) x.outputByte(at));
        }
        return state.append('"').toString();
    }

    /** What all calls that only ask answer to the numbers that are there; some 350 calls for FORK. */
    static String answers(TruckPlatoons x) {
        StringBuilder answers = new StringBuilder(state(x)).append('\n');
        int trucks = x.count(1);
        for (int road = 0; road < x.count(0); road++) {
            answersOfRoad(answers, x, road);
        }
        for (int truck = 0; truck < trucks; truck++) {
            answersOfTruck(answers, x, truck);
            for (int other = 0; other < trucks; other++) {
                for (int what = 0; what < 3; what++) {
                    answers.append(x.run(truck, other, what)).append(' ');
                }
                answers.append(x.together(truck, other)).append(' ').append(x.pairSaved(truck, other)).append(' ')
                        .append(x.common(truck, other)).append(' ').append(x.reason(truck, other)).append('\n');
            }
        }
        return answers.append(x.alone()).append(' ').append(x.lateOnes()).append(' ').append(x.bestRoad()).append(' ')
                .append(x.shareBits()).append(' ').append(x.quickest(0, 3)).toString();
    }

    private static void answersOfRoad(StringBuilder answers, TruckPlatoons x, int road) {
        for (int what = 0; what < 6; what++) {
            answers.append(x.road(road, what)).append(' ');
        }
        answers.append(x.onRoad(road, 9)).append(' ');
        for (int platoon = 0; platoon < x.road(road, 4); platoon++) {
            for (int what = 0; what < 6; what++) {
                answers.append(x.platoon(road, platoon, what)).append(' ');
            }
            for (int position = 0; position <= x.platoon(road, platoon, 2); position++) {
                answers.append(x.member(road, platoon, position)).append(' ');
            }
            answers.append(x.orderLoss(road, platoon)).append(' ').append(x.bestMember(road, platoon, 0)).append('\n');
        }
    }

    private static void answersOfTruck(StringBuilder answers, TruckPlatoons x, int truck) {
        for (int what = 0; what < 9; what++) {
            answers.append(x.truck(truck, what)).append(' ');
        }
        for (int place = 0; place < x.truck(truck, 3); place++) {
            for (int what = 6; what < 11; what++) {
                answers.append(x.place(truck, place, what)).append(' ');
            }
            answers.append(x.platoonOf(truck, place)).append(' ').append(x.position(truck, place)).append(' ')
                    .append(x.key(truck, place)).append(' ');
        }
        answers.append(x.slack(truck)).append(' ').append(x.bestPartner(truck)).append(' ').append(x.rate(truck))
                .append('\n');
    }
}
