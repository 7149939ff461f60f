/** Small worlds whose numbers are worked out by hand in the tests. */
final class Worlds {
    private Worlds() {
    }

    /**
     * At SPEED 80 road 0 takes 45 minutes and has the BASE 60 * (150 + 160) = 18600; road 1 takes 75 minutes and has
     * the BASE 31000; road 2 takes 40 minutes at its LIMIT 60 and has the BASE 40 * (150 + 90) = 9600.
     *
     * On road 0 trucks 0, 1 and 2 are a platoon: 0 and 2 share two places, 1 shares one with either, so that the ORDER
     * is 0 2 1. Both distances are 30, s = 60: the two behind save 1116, the first one 18600 * 15 / 1000 = 279.
     * Truck 3 enters five minutes later. On road 1 trucks 0 and 2 save 31000 * 15 / 1000 = 465 and 1860.
     * Truck 2 arrives at 120 and is late by 20.
     */
    static final String FORK = "road 0 1 60 100;road 1 2 100 90;road 1 3 40 60;"
            + "truck 0 500 10 0 1;truck 0 500 20 0 2;truck 0 100 30 0 1;truck 5 500 10 0;";

    /**
     * All roads take 45 minutes and have the BASE 18600. On road 0 all KEYs are 2, so that the ORDER is 0 1 2 3, in
     * which 2 and 3 close up. All distances are 10, s = 120: one behind saves 2232, the first one 558.
     */
    static final String ZIP = "road 0 1 60 100;road 1 2 60 80;road 1 3 60 80;"
            + "truck 0 900 10 0 1;truck 0 900 10 0 2;truck 0 900 10 0 1;truck 0 900 10 0 2;";

    /** Two trucks on the same two roads of 45 minutes, ten minutes apart. */
    static String apart(int minutes, int deadline, int otherDeadline) {
        return "road 0 1 60 80;road 1 2 60 80;truck 0 " + deadline + " 10 0 1;truck " + minutes + " "
                + otherDeadline + " 10 0 1;";
    }
}
