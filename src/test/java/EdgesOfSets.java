/** A test for each sentence with an edge of promises 32 to 42, and 45: sets, orders, shares, ways and output. */
final class EdgesOfSets {
    private static final Class<IndexOutOfBoundsException> INDEX = IndexOutOfBoundsException.class;

    private static final String NO_PLATOON = "Throws IndexOutOfBoundsException if there is no such road or platoon";
    private static final String NO_TRUCK = "Throws IndexOutOfBoundsException if there is no such truck";
    private static final String SEVEN = "Throws IllegalStateException if it has more than 6 members";
    private static final String SET = "Returns the set, bit t for truck t.";

    private static final TruckPlatoons FORK = Check.loaded(Worlds.FORK);
    private static final TruckPlatoons ZIP = Check.loaded(Worlds.ZIP);
    private static final String TRUCK = "truck 0 999 10 0;";

    private EdgesOfSets() {
    }

    static void all() {
        onRoad();
        alone();
        lateOnes();
        bestRoad();
        orderLoss();
        bestMember();
        rate();
        shareBits();
        ways();
        quickest();
        write();
        outputByte();
        digest();
    }

    private static TruckPlatoons together(int trucks) {
        return Check.loaded("road 0 1 60 80;" + TRUCK.repeat(trucks));
    }

    private static void onRoad() {
        Sentences.test(32, "ENTER is the minute or earlier, LEAVE later.");
        int[] minutes = {4, 5, 6, 49, 50, 51};
        int[] sets = {0, 8, 8, 8, 0, 0};
        TruckPlatoons x = Check.loaded(Worlds.FORK);
        for (int truck = 0; truck < 3; truck++) {
            x.setStart(truck, 1000);
        }
        for (int at = 0; at < minutes.length; at++) {
            Check.due("onRoad(0, " + minutes[at] + ") of truck 3", x.onRoad(0, minutes[at]), sets[at]);
        }
        x.setWait(0, 1, 2);
        Check.due("onRoad(0, 1045) ahead of road 1", x.onRoad(0, 1045), 0);
        Check.due("onRoad(1, 1045), with truck 0 waiting", x.onRoad(1, 1045), 4);
        Check.due("onRoad(1, 1046), with truck 0 waiting", x.onRoad(1, 1046), 4);
        Check.due("onRoad(1, 1047)", x.onRoad(1, 1047), 5);

        Sentences.test(32, "minute: any number");
        for (int minute : new int[] {-1, Integer.MIN_VALUE, 20001, Integer.MAX_VALUE}) {
            Check.due("onRoad(0, " + minute + ")", FORK.onRoad(0, minute), 0);
        }
        Check.due("onRoad(0, 0)", FORK.onRoad(0, 0), 7);

        Sentences.test(32, SET);
        Check.due("all twelve", together(12).onRoad(0, 44), 4095);
        // a road that stands twice in a route is entered at 0 and at 22, with 11 minutes each time
        TruckPlatoons ring = Check.loaded("road 0 1 9 50;road 1 0 9 50;truck 0 999 5 0 1 0;");
        int[] turns = {0, 10, 11, 21, 22, 32, 33};
        int[] there = {1, 1, 0, 0, 1, 1, 0};
        for (int at = 0; at < turns.length; at++) {
            Check.due("a road twice, at " + turns[at], ring.onRoad(0, turns[at]), there[at]);
        }

        Sentences.test(32, "Throws IndexOutOfBoundsException if there is no such road");
        Check.dueOutside("onRoad(.., 0)", INDEX, 0, 2, road -> FORK.onRoad(road, 0));
        Check.dueIndex("onRoad(0, 0) of a new object", () -> new TruckPlatoons().onRoad(0, 0));
    }

    private static void alone() {
        Sentences.test(33, "Returns the trucks that are never in a platoon with another one.");
        // truck 2 meets 1 at its last place alone; truck 3 is there a minute later
        TruckPlatoons x = Check.loaded("road 0 1 60 80;road 5 1 60 80;road 1 2 60 80;truck 9 999 5 0;"
                + "truck 0 999 5 0 2;truck 0 999 5 1 2;truck 1 999 5 1 2;");
        Check.due("alone()", x.alone(), 9);

        Sentences.test(33, SET);
        Check.due("without trucks", new TruckPlatoons().alone(), 0);
        Check.due("twelve in one platoon", together(12).alone(), 0);
        TruckPlatoons y = together(12);
        y.setStart(11, 1);
        Check.due("the last one alone", y.alone(), 1 << 11);
        Check.due("one truck", together(1).alone(), 1);
    }

    private static void lateOnes() {
        Sentences.test(34, "Returns the late trucks.");
        TruckPlatoons x = Check.loaded("road 0 1 60 80;truck 0 46 5 0;truck 0 45 5 0;truck 0 44 5 0;truck 0 0 5 0;");
        Check.due("lateOnes()", x.lateOnes(), 12);

        Sentences.test(34, SET);
        Check.due("without trucks", new TruckPlatoons().lateOnes(), 0);
        Check.due("all twelve", Check.loaded("road 0 1 60 80;" + "truck 0 0 5 0;".repeat(12)).lateOnes(), 4095);
    }

    private static void bestRoad() {
        Sentences.test(35, "Returns the road, of several the lowest one;");
        String two = "road 0 1 60 80;road 1 2 60 80;truck 0 999 10 0 1;truck 0 999 10 0 1;";
        Check.due("both the same", Check.loaded(two).bestRoad(), 0);
        Check.due("the second one by a kilometer", Check.loaded(two.replace("2 60", "2 61")).bestRoad(), 1);

        Sentences.test(35, "NONE if nothing is saved.");
        Check.due("without trucks", new TruckPlatoons().bestRoad(), -1);
        Check.due("one truck", together(1).bestRoad(), -1);
        Check.due("too great a distance",
                Check.loaded("road 0 1 60 80;truck 0 0 50 0;truck 0 0 5 0;").bestRoad(), -1);
        // 310 * 3 / 1000 is 0 and a rest, 310 * 6 / 1000 is 1 and a rest
        Check.due("less than a milliliter",
                Check.loaded("road 0 1 1 80;truck 0 0 49 0;truck 0 0 5 0;").bestRoad(), -1);
        Check.due("a milliliter", Check.loaded("road 0 1 1 80;truck 0 0 48 0;truck 0 0 5 0;").bestRoad(), 0);
    }

    private static void orderLoss() {
        Sentences.test(36, "of all orders of its members, what they save less 300 for each that closes up,");
        Check.due("ZIP without closing up", ZIP.orderLoss(0, 0), 600);
        // the first order has the distance 40 first, the best one has it last; all have it once
        TruckPlatoons wide = Check.loaded("road 0 1 60 80;truck 0 999 40 0;" + TRUCK.repeat(5));
        Check.due("the first truck as the last one", wide.orderLoss(0, 0), 18600 * 30 / 1000 - 18600 * 7 / 1000);
        // GAPs 10 20 30: 1 0 2 has the distances 20 and 30, its ORDER 0 2 1 has 30 twice
        Check.due("FORK by its GAPs", FORK.orderLoss(0, 0), 1674 + 409 - 1116 - 279);
        // the ORDER has the distance 30 twice, the best one 20 and 30: s is 60 twice, or 90 and 60
        TruckPlatoons far = Check.loaded("road 0 1 300 80;truck 0 999 10 0;truck 0 999 30 0;truck 0 999 20 0;");
        Check.due("three on 300 kilometers", far.orderLoss(0, 0), 93 * (90 + 22) - 93 * (60 + 15));
        // 45 to 20 have one NEXT, 10 has another: in 5 4 3 2 1 0 the first distance is 20 and nobody closes up
        TruckPlatoons six = Check.loaded("road 0 1 60 80;road 1 2 60 80;road 1 3 60 80;truck 0 999 45 0 1;"
                + "truck 0 999 40 0 1;truck 0 999 35 0 1;truck 0 999 30 0 1;truck 0 999 20 0 1;truck 0 999 10 0 2;");
        Check.dueRow("the last of all 720", 0, position -> six.bestMember(0, 0, position), 5, 4, 3, 2, 1, 0);
        Check.due("the last of all 720", six.orderLoss(0, 0), 18600 * 22 / 1000 - 18600 * 3 / 1000);

        Sentences.test(36, "the greatest one, minus that of its ORDER.");
        Check.due("one alone", FORK.orderLoss(0, 1), 0);
        Check.due("like members", together(6).orderLoss(0, 0), 0);

        Sentences.test(36, NO_PLATOON);
        Check.dueOutside("orderLoss(.., 0)", INDEX, 0, 2, road -> FORK.orderLoss(road, 0));
        Check.dueOutside("orderLoss(0, ..)", INDEX, 0, 1, platoon -> FORK.orderLoss(0, platoon));
        Check.dueIndex("a road without trucks", () -> Check.loaded("road 0 1 60 80;").orderLoss(0, 0));
        Check.dueIndex("the next platoon after one of seven", () -> together(7).orderLoss(0, 1));

        Sentences.test(36, SEVEN);
        Check.dueNotThrown("orderLoss() of six", () -> together(6).orderLoss(0, 0));
        Check.dueState("orderLoss() of seven", () -> together(7).orderLoss(0, 0));
        Check.dueState("orderLoss() of twelve", () -> together(12).orderLoss(0, 0));
    }

    private static void bestMember() {
        Sentences.test(37, "of several such orders the first one by its first truck, then its second one, and so on,");
        Check.dueRow("six alike", 0, position -> together(6).bestMember(0, 0, position), 0, 1, 2, 3, 4, 5);
        Check.dueRow("ZIP", 0, position -> ZIP.bestMember(0, 0, position), 0, 2, 1, 3);

        Sentences.test(37, "the lowest ones first).");
        // the ORDER is 1 2 0, as 0 has the least KEY; 0 1 2 saves as much
        TruckPlatoons x = Check.loaded("road 0 1 60 80;road 1 2 60 80;truck 0 900 10 0;truck 0 900 10 0 1;"
                + "truck 0 900 10 0 1;");
        Check.dueRow("ORDER", 0, position -> x.member(0, 0, position), 1, 2, 0);
        Check.dueRow("best order", 0, position -> x.bestMember(0, 0, position), 0, 1, 2);

        Sentences.test(37, "position: from 0");
        Check.due("one alone", FORK.bestMember(0, 1, 0), 3);

        Sentences.test(37, "NONE if it has not so many.");
        Check.due("behind one alone", FORK.bestMember(0, 1, 1), -1);
        Check.due("behind six", together(6).bestMember(0, 0, 6), -1);
        Check.due("behind four", ZIP.bestMember(0, 0, 4), -1);
        Check.due("far behind", ZIP.bestMember(0, 0, Integer.MAX_VALUE), -1);

        Sentences.test(37, NO_PLATOON);
        Check.dueOutside("bestMember(.., 0, 0)", INDEX, 0, 2, road -> FORK.bestMember(road, 0, 0));
        Check.dueOutside("bestMember(0, .., 0)", INDEX, 0, 1, platoon -> FORK.bestMember(0, platoon, 0));
        Check.dueIndex("bestMember(3, 0, 99)", () -> FORK.bestMember(3, 0, 99));

        Sentences.test(37, "or position is negative");
        Check.dueIndex("bestMember(0, 0, -1)", () -> FORK.bestMember(0, 0, -1));
        Check.dueIndex("bestMember(0, 0, MIN)", () -> FORK.bestMember(0, 0, Integer.MIN_VALUE));
        Check.dueIndex("bestMember(0, 0, -1) of seven", () -> together(7).bestMember(0, 0, -1));

        Sentences.test(37, SEVEN);
        Check.dueNotThrown("bestMember() of six", () -> together(6).bestMember(0, 0, 0));
        Check.dueState("bestMember() of seven", () -> together(7).bestMember(0, 0, 0));
        Check.dueState("bestMember() of seven, behind the last", () -> together(7).bestMember(0, 0, 7));
    }

    private static void rate() {
        Sentences.test(38, "Returns its FUEL divided by its kilometers, both converted to float.");
        Check.due("with a rest", Float.floatToIntBits(FORK.rate(0)), Float.floatToIntBits(48856f / 160f));
        Check.due("of 1 kilometer", Float.floatToIntBits(Check.loaded("road 0 1 1 80;truck 0 9 5 0;").rate(0)),
                Float.floatToIntBits(310f));

        Sentences.test(38, NO_TRUCK);
        Check.dueOutside("rate()", INDEX, 0, 3, truck -> (int) FORK.rate(truck));
    }

    /** Twelve trucks with ten places each, all at 120 but for one place, so that all BASEs are above 2 to the 24. */
    private static TruckPlatoons greatest() {
        StringBuilder text = new StringBuilder("road 0 1 299 120;road 1 0 300 120;");
        StringBuilder script = new StringBuilder();
        for (int truck = 0; truck < 12; truck++) {
            text.append("truck 0 0 ").append(7 + truck).append(" 0 1 0 1 0 1 0 1 0 1;");
            script.append("hurry ").append(truck).append(';');
        }
        TruckPlatoons x = Check.loaded(text.toString());
        Check.due("the script", Check.play(x, script + "speed 0 0 113;"), 13);
        return x;
    }

    private static void shareBits() {
        Sentences.test(39,
                "Returns Float.floatToIntBits of the float of count(6) divided by that of all BASEs together.");
        Check.due("FORK", FORK.shareBits(), Float.floatToIntBits(4836f / 146000f));
        Check.due("nothing saved", together(1).shareBits(), 0);
        TruckPlatoons x = greatest();
        int bases = 0;
        for (int truck = 0; truck < 12; truck++) {
            for (int place = 0; place < 10; place++) {
                bases += x.place(truck, place, 6);
            }
        }
        int share = Float.floatToIntBits((float) x.count(6) / (float) bases);
        Check.due("a float cannot hold all BASEs", bases != (int) (float) bases, true);
        float ofDoubles = (float) ((double) x.count(6) / bases);
        Check.due("which makes a difference", share != Float.floatToIntBits(ofDoubles), true);
        Check.due("the greatest BASEs", x.shareBits(), share);

        Sentences.test(39, "Throws ArithmeticException if there are no trucks");
        Check.dueThrows("a new object", ArithmeticException.class, () -> new TruckPlatoons().shareBits());
        Check.dueThrows("roads alone", ArithmeticException.class, () -> together(0).shareBits());
        Check.dueNotThrown("one truck", () -> together(1).shareBits());
    }

    private static void ways() {
        Sentences.test(40, "Finds a way with the fewest minutes from a node to another one,");
        TruckPlatoons x = Check.loaded("road 0 1 60 60;road 1 2 60 60;road 0 2 121 60;road 2 0 1 60;road 3 0 1 60;");
        Check.due("two roads are quicker", x.quickest(0, 2), 120);
        Check.due("round", x.quickest(1, 0), 61);
        Check.due("one of two roads between two nodes",
                Check.loaded("road 0 1 60 60;road 0 1 59 60;road 0 1 61 60;").quickest(0, 1), 59);
        StringBuilder line = new StringBuilder();
        for (int node = 18; node >= 0; node--) {
            line.append("road ").append(node).append(' ').append(node + 1).append(" 300 40;");
        }
        Check.due("the longest way", Check.loaded(line.toString()).quickest(0, 19), 19 * 450);

        Sentences.test(40, "over roads at their LIMITs");
        TruckPlatoons y = Check.loaded("road 0 1 60 120;truck 0 0 5 0;");
        Check.due("above the SPEED", y.quickest(0, 1), 30);
        y.setSpeed(0, 0, 40);
        Check.due("above another SPEED", y.quickest(0, 1), 30);
        Check.due("a longer road with a greater LIMIT",
                Check.loaded("road 0 1 60 60;road 0 1 80 120;").quickest(0, 1), 40);

        Sentences.test(40, "(each takes LENGTH * 60 / LIMIT minutes, rounded up).");
        Check.due("without a rest", Check.loaded("road 0 1 60 90;").quickest(0, 1), 40);
        Check.due("with a rest", Check.loaded("road 0 1 60 89;").quickest(0, 1), 41);
        Check.due("each for itself", Check.loaded("road 0 1 1 120;road 1 2 1 120;").quickest(0, 2), 2);
    }

    private static void quickest() {
        TruckPlatoons x = Check.loaded("road 0 19 60 60;");
        Class<IllegalArgumentException> argument = IllegalArgumentException.class;
        Sentences.test(40, "from: 0 to 19");
        Check.dueOutside("quickest(.., 0)", argument, 0, 19, from -> x.quickest(from, 0));
        TruckPlatoons none = new TruckPlatoons();
        Check.dueOutside("quickest(.., 0) of a new object", argument, 0, 19, from -> none.quickest(from, 0));

        Sentences.test(40, "to: 0 to 19");
        Check.dueOutside("quickest(0, ..)", argument, 0, 19, to -> x.quickest(0, to));
        Check.due("quickest(0, 19)", x.quickest(0, 19), 60);

        Sentences.test(40, "0 if both are the same;");
        Check.due("quickest(0, 0)", x.quickest(0, 0), 0);
        Check.due("quickest(7, 7) without roads", x.quickest(7, 7), 0);
        Check.due("quickest(0, 0) with a way round",
                Check.loaded("road 0 1 1 60;road 1 0 1 60;").quickest(0, 0), 0);

        Sentences.test(40, "NONE if there is no way.");
        Check.due("against the road", x.quickest(19, 0), -1);
        Check.due("without roads", new TruckPlatoons().quickest(0, 1), -1);
        Check.due("to a road that one cannot come to", Check.loaded("road 0 1 1 60;road 2 3 1 60;").quickest(0, 3), -1);

        Sentences.test(40, "Throws IllegalArgumentException if from or to is out of range");
        Check.dueOutside("quickest() of both", argument, 0, 19, both -> x.quickest(both, both));
    }

    private static void write() {
        Sentences.test(41, "for each place ENTER, a minus sign, LEAVE, with a space ahead of all but the first,");
        Check.dueText("one place", Check.written(FORK, 3), "5-50");
        TruckPlatoons x = Check.loaded("road 0 1 9 50;road 1 0 9 50;truck 0 0 5 0 1 0;truck 1989 0 5 0 1;");
        Check.dueText("three places", Check.written(x, 0), "0-11 11-22 22-33");
        Check.dueText("four digits", Check.written(x, 1), "1989-2000 2000-2011");
        x.setStart(1, 88);
        Check.dueText("from two digits to three", Check.written(x, 1), "88-99 99-110");
        x.setStart(1, 989);
        Check.dueText("from three digits to four", Check.written(x, 1), "989-1000 1000-1011");

        Sentences.test(41, "and behind LEAVE, if it is in a platoon with others, an asterisk and its position.");
        Check.dueText("the first one", Check.written(FORK, 0), "0-45*0 45-120*0");
        Check.dueText("the last one, then alone", Check.written(FORK, 1), "0-45*2 45-85");
        Check.dueText("position 9", Check.written(together(12), 9), "0-45*9");
        Check.dueText("position 10", Check.written(together(12), 10), "0-45*10");
        Check.dueText("position 11", Check.written(together(12), 11), "0-45*11");

        Sentences.test(41, "Returns the number of bytes.");
        Check.due("the shortest", Check.loaded("road 0 1 1 80;truck 0 0 5 0;").write(0), 3);
        String ten = "truck 2000 0 5 0 1 0 1 0 1 0 1 0 1;";
        TruckPlatoons longest = Check.loaded("road 0 1 9 50;road 1 0 9 50;" + ten.repeat(12));
        Check.due("the longest", longest.write(11), 10 * 13 - 1);
        Check.due("its last byte", longest.outputByte(128), '1');
        Check.due("the byte behind it", longest.outputByte(129), -1);

        Sentences.test(41, NO_TRUCK);
        Check.dueOutside("write()", INDEX, 0, 3, FORK::write);
        FORK.write(3);
        Check.dueIndex("write(4)", () -> FORK.write(4));
        Check.due("the output then", FORK.outputByte(0), '5');
    }

    private static void outputByte() {
        Sentences.test(42, "index: from 0");
        FORK.write(3);
        Check.dueRow("outputByte()", 0, FORK::outputByte, '5', '-', '5', '0');

        Sentences.test(42, "NONE if there is no such byte.");
        Check.due("a new object", new TruckPlatoons().outputByte(0), -1);
        for (int index : new int[] {-1, 4, 129, 130, 131, Integer.MIN_VALUE, Integer.MAX_VALUE}) {
            Check.due("outputByte(" + index + ")", FORK.outputByte(index), -1);
        }
        FORK.write(0);
        FORK.write(3);
        Check.due("a byte of a longer output before", FORK.outputByte(4), -1);
    }

    private static void digest() {
        Sentences.test(45, "Returns a digest: begin with 1;");
        Check.due("a new object", new TruckPlatoons().digest(), 1);
        Check.due("roads alone", together(0).digest(), 1);

        Sentences.test(45, "for each truck, for each of its places, take 31 times the digest plus ENTER, "
                + "then 31 times that plus SPEED, then 31 times that plus FUEL");
        TruckPlatoons x = Check.loaded("road 0 1 60 80;truck 7 999 10 0;");
        Check.due("one truck", x.digest(), ((31 + 7) * 31 + 80) * 31 + 18600);
        // of a second place ENTER is 45, and of a second truck 5 at its first one
        TruckPlatoons y = Check.loaded("road 0 1 60 80;road 1 2 1 40;truck 0 999 10 0 1;truck 5 999 10 0;");
        int want = 1;
        for (int value : new int[] {0, 80, 18600, 45, 40, 190, 5, 80, 18600}) {
            want = 31 * want + value;
        }
        Check.due("two trucks with three places", y.digest(), want);

        Sentences.test(45, "(in int arithmetic, overflow wraps).");
        long digest = 1;
        for (int truck = 0; truck < 2; truck++) {
            digest = ((digest * 31) * 31 + 80) * 31 + 18600 - (truck == 0 ? 558 : 2232);
        }
        Check.due("two trucks, within the ints", together(2).digest(), digest);
        Check.due("within the ints", digest, (int) digest);
        digest = ((digest * 31) * 31 + 80) * 31 + 18600 - 2232;
        Check.due("three trucks, beyond them", digest != (int) digest, true);
        Check.due("three trucks", together(3).digest(), (int) digest);
    }
}
