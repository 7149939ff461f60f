/** A test for each sentence with an edge about times, platoons and fuel, and those of promises 7 to 21. */
final class EdgesOfPlatoons {
    private static final Class<IndexOutOfBoundsException> INDEX = IndexOutOfBoundsException.class;
    private static final Class<IllegalArgumentException> ARGUMENT = IllegalArgumentException.class;

    private static final String NO_ROAD = "Throws IndexOutOfBoundsException if there is no such road";
    private static final String NO_TRUCK = "Throws IndexOutOfBoundsException if there is no such truck";
    private static final String NO_PLACE = "Throws IndexOutOfBoundsException if there is no such truck or place";
    private static final String NO_PLATOON = "Throws IndexOutOfBoundsException if there is no such road or platoon";
    private static final String NO_PAIR =
            "Throws IndexOutOfBoundsException if there is no truck with one of these numbers";
    private static final String BOTH_THE_SAME = "REFUSED if both are the same.";
    private static final String ANY_OTHER = "NONE for any other what.";

    private static final TruckPlatoons FORK = Check.loaded(Worlds.FORK);
    private static final TruckPlatoons ZIP = Check.loaded(Worlds.ZIP);

    /** Road 0 goes on to roads 1 to 3; all have 60 kilometers, 45 minutes and the BASE 18600 at SPEED 80. */
    private static final String FAN = "road 0 1 60 80;road 1 2 60 80;road 1 3 60 80;road 1 4 60 80;";

    private EdgesOfPlatoons() {
    }

    static void all() {
        times();
        platoons();
        sharing();
        order();
        fuel();
        savings();
        closingUp();
        pairs();
        counts();
        propertiesOfRoads();
        propertiesOfTrucks();
        propertiesOfPlaces();
        membersAtPlaces();
        propertiesOfPlatoons();
        members();
        together();
        pairSaved();
        run();
        common();
        slack();
        neededSpeed();
    }

    /** Trucks with the GAP 10 that enter road 0 of the FAN together; each route is told by its roads. */
    private static TruckPlatoons fan(String... routes) {
        StringBuilder text = new StringBuilder(FAN);
        for (String route : routes) {
            text.append("truck 0 999 10 ").append(route).append(';');
        }
        return Check.loaded(text.toString());
    }

    private static void times() {
        Sentences.test(0, "ENTER at the place 0 is START plus WAIT;");
        TruckPlatoons x = Check.loaded("road 0 1 60 80;truck 2000 9999 5 0;truck 0 9999 5 0;");
        x.setWait(0, 0, 120);
        Check.due("ENTER at 2000 and 120", x.place(0, 0, 4), 2120);
        Check.due("ENTER at 0 and 0", x.place(1, 0, 4), 0);

        Sentences.test(0, "LEAVE is ENTER plus LENGTH * 60 / SPEED, rounded up;");
        // without a rest, and with the least and the greatest rest
        int[][] rows = {{1, 120, 1}, {1, 60, 1}, {1, 61, 1}, {1, 59, 2}, {2, 120, 1}, {3, 120, 2}, {60, 80, 45},
            {60, 79, 46}, {60, 90, 40}, {60, 91, 40}, {60, 89, 41}, {300, 40, 450}, {300, 41, 440}, {300, 120, 150}};
        for (int[] row : rows) {
            TruckPlatoons y = Check.loaded("road 0 1 " + row[0] + " 120;truck 7 0 5 0;");
            y.setSpeed(0, 0, row[1]);
            Check.due("LEAVE of " + row[0] + " at " + row[1], y.place(0, 0, 5), 7 + row[2]);
        }

        Sentences.test(0, "ENTER at the next place is this LEAVE plus the WAIT there.");
        TruckPlatoons two = fan("0 1");
        Check.due("ENTER with the WAIT 0", two.place(0, 1, 4), 45);
        two.setWait(0, 1, 120);
        Check.due("ENTER with the WAIT 120", two.place(0, 1, 4), 165);
        two.setWait(0, 0, 120);
        Check.due("ENTER with both", two.place(0, 1, 4), 285);

        Sentences.test(0, "ARRIVAL is LEAVE at the last place.");
        Check.due("ARRIVAL of one place", fan("0").truck(0, 4), 45);
        Check.due("ARRIVAL of ten places", Check.loaded("road 0 1 9 50;road 1 0 9 50;"
                + "truck 3 0 5 0 1 0 1 0 1 0 1 0 1;").truck(0, 4), 3 + 10 * 11);

        Sentences.test(0, "A truck is late if ARRIVAL is greater than DEADLINE.");
        TruckPlatoons three = Check.loaded(FAN + "truck 0 46 5 0;truck 0 45 5 0;truck 0 44 5 0;truck 0 0 5 0;");
        Check.due("lateOnes()", three.lateOnes(), 12);
        Check.due("count(4)", three.count(4), 2);
        three.setWait(1, 0, 1);
        Check.due("lateOnes() a minute later", three.lateOnes(), 14);

        Sentences.test(0, "READY at a place is START at the place 0, otherwise LEAVE at the place before.");
        two.setStart(0, 9);
        Check.due("READY at 0", two.place(0, 0, 3), 9);
        Check.due("READY at 1", two.place(0, 1, 3), 9 + 120 + 45);
    }

    private static void platoons() {
        Sentences.test(0, "Trucks that have the same road with the same ENTER and the same SPEED are a platoon there");
        TruckPlatoons x = Check.loaded("road 0 1 1 80;road 0 1 1 80;truck 5 99 5 0;truck 5 99 5 0;truck 6 99 5 0;"
                + "truck 5 99 5 1;");
        Check.due("together", x.together(0, 1), 1);
        Check.due("a minute later", x.together(0, 2), 0);
        Check.due("on another road", x.together(0, 3), 0);
        x.setWait(0, 0, 1);
        Check.due("by START and WAIT", x.together(0, 2), 1);
        Check.due("no more by START", x.together(0, 1), 0);
        x.setSpeed(2, 0, 79);
        Check.due("the same LEAVE", x.place(0, 0, 5), x.place(2, 0, 5));
        Check.due("at another SPEED", x.together(0, 2), 0);

        Sentences.test(0, "(also one alone)");
        Check.due("platoons of road 0", x.road(0, 4), 3);
        Check.due("members of that of truck 3", x.platoon(1, 0, 2), 1);
        Check.due("its member", x.member(1, 0, 0), 3);

        Sentences.test(0, "The platoons of a road are numbered by ENTER, then by SPEED.");
        TruckPlatoons y = Check.loaded(FAN + "truck 9 99 5 0;truck 8 99 5 0;truck 9 99 5 0;truck 10 99 5 0;");
        y.setSpeed(2, 0, 79);
        y.setSpeed(3, 0, 40);
        Check.dueRow("platoonOf()", 0, truck -> y.platoonOf(truck, 0), 2, 0, 1, 3);
    }

    private static void keys(String call, TruckPlatoons x, int truck, int... want) {
        Check.dueRow("key() of " + call, 0, place -> x.key(truck, place), want);
    }

    private static void sharing() {
        Sentences.test(0, "Two members share so many places as their routes have the same roads one behind the other,");
        String line = "road 0 1 9 50;road 1 2 9 50;road 2 3 9 50;road 1 2 9 50;";
        TruckPlatoons x = Check.loaded(line + "truck 0 99 5 0 1 2;truck 0 99 5 0 1 2;");
        keys("like routes", x, 0, 3, 2, 1);
        TruckPlatoons parted = Check.loaded(line + "truck 0 99 5 0 1 2;truck 0 99 5 0 3 2;");
        keys("routes that part and meet", parted, 0, 1, 0, 1);
        TruckPlatoons ended = Check.loaded(line + "truck 0 99 5 0 1 2;truck 0 99 5 0 1;");
        keys("a route that goes on", ended, 0, 2, 1, 0);
        keys("a route that ends", ended, 1, 2, 1);
        String ten = "truck 0 999 5 0 1 0 1 0 1 0 1 0 1;";
        TruckPlatoons ring = Check.loaded("road 0 1 9 50;road 1 0 9 50;" + ten + ten);
        keys("ten places", ring, 1, 10, 9, 8, 7, 6, 5, 4, 3, 2, 1);

        Sentences.test(0, "from this road on (this one included).");
        // truck 1 comes to road 1 at its first place, as truck 0 does at its second one; they had nothing before
        TruckPlatoons late = Check.loaded(line + "truck 0 99 5 0 1 2;truck 11 99 5 1 2;truck 22 99 5 2;");
        keys("places that are not the same ones", late, 0, 0, 2, 1);
        keys("the first place", late, 1, 2, 1);
        keys("the last road", late, 2, 1);

        Sentences.test(0, "The KEY of a member is the greatest number of places that it shares with one of the others");
        TruckPlatoons three = Check.loaded(line + "truck 0 99 5 0;truck 0 99 5 0 1;truck 0 99 5 0 1 2;");
        Check.dueRow("key() of three", 0, truck -> three.key(truck, 0), 1, 2, 2);
        Check.due("key() of one with another one only at 0", three.key(2, 1), 1);

        Sentences.test(0, "that it shares with one of the others (0 if it is alone).");
        Check.due("key() at the place where it is alone", three.key(2, 2), 0);
        Check.due("key() of FORK's truck 3", FORK.key(3, 0), 0);
    }

    private static void order() {
        Sentences.test(0, "The ORDER of a platoon: the member with the greatest KEY first,");
        TruckPlatoons x = Check.loaded(FAN + "road 2 5 60 80;truck 0 999 5 0;truck 0 999 5 0 1;truck 0 999 5 0 1 4;"
                + "truck 0 999 5 0 1 4;truck 0 999 5 0;");
        Check.dueRow("KEY", 0, truck -> x.key(truck, 0), 1, 2, 3, 3, 1);
        Check.dueRow("ORDER", 0, position -> x.member(0, 0, position), 2, 3, 1, 0, 4, -1);

        Sentences.test(0, "of several the lowest truck.");
        Check.dueRow("ORDER of like KEYs", 0, position -> ZIP.member(0, 0, position), 0, 1, 2, 3, -1);
        TruckPlatoons all = Check.loaded("road 0 1 60 80;" + "truck 0 999 5 0;".repeat(12));
        Check.dueRow("ORDER of twelve", 0, position -> all.member(0, 0, position),
                0, 1, 2, 3, 4, 5, 6, 7, 8, 9, 10, 11, -1);
    }

    private static void fuel() {
        Sentences.test(0, "BASE of a truck at a place: LENGTH * (150 + SPEED * SPEED / 40), in milliliters");
        TruckPlatoons x = Check.loaded("road 0 1 1 120;road 1 0 300 120;truck 0 0 5 0 1;");
        int[] speeds = {40, 41, 79, 80, 119, 120};
        int[] each = {190, 192, 306, 310, 504, 510};
        for (int at = 0; at < speeds.length; at++) {
            x.setSpeed(0, 0, speeds[at]);
            x.setSpeed(0, 1, speeds[at]);
            Check.due("BASE of 1 at " + speeds[at], x.place(0, 0, 6), each[at]);
            Check.due("BASE of 300 at " + speeds[at], x.place(0, 1, 6), 300 * each[at]);
        }

        Sentences.test(0, "(all divisions are rounded down).");
        // SPEED * SPEED / 40 is 156 and a rest; s is 135, a quarter of it 33 and a rest; 306 * 135 is 41310
        TruckPlatoons y = Check.loaded("road 0 1 1 79;truck 0 0 5 0;truck 0 0 5 0;");
        Check.due("BASE", y.place(0, 0, 6), 306);
        Check.due("saved by the second one", y.place(1, 0, 7), 41);
        Check.due("saved by the first one", y.place(0, 0, 7), 10);

        Sentences.test(0, "FUEL at a place is BASE less what is saved there, plus the 300 if it closes up there.");
        Check.due("FUEL alone", FORK.place(3, 0, 8), 18600);
        Check.due("FUEL behind another", ZIP.place(1, 0, 8), 18600 - 2232);
        Check.due("FUEL of the first one", ZIP.place(0, 0, 8), 18600 - 558);
        Check.due("FUEL of one that closes up", ZIP.place(2, 0, 8), 18600 - 2232 + 300);

        Sentences.test(0, "this costs 300.");
        Check.due("FUEL of all of ZIP", ZIP.count(5), 8 * 18600 - 12834 + 2 * 300);
    }

    private static void savings() {
        Sentences.test(0, "The distance of a member that is not the first is the greater one of both GAPs,");
        TruckPlatoons x = Check.loaded("road 0 1 60 80;truck 0 0 9 0;truck 0 0 8 0;truck 0 0 8 0;truck 0 0 9 0;");
        Check.dueRow("distance", 0, truck -> x.place(truck, 0, 10), 0, 9, 8, 9);

        Sentences.test(0, "its own and that of the member directly ahead.");
        TruckPlatoons y = Check.loaded("road 0 1 60 80;truck 0 0 60 0;truck 0 0 5 0;truck 0 0 6 0;truck 0 0 5 0;");
        Check.dueRow("distance with the greatest GAP first", 0, truck -> y.place(truck, 0, 10), 0, 60, 6, 6);

        int[] gaps = {5, 48, 49, 50, 51, 60};
        int[] behind = {2511, 111, 55, 0, 0, 0};
        int[] first = {613, 18, 0, 0, 0, 0};
        Sentences.test(0, "It saves BASE * s / 1000 with s = 150 - 3 * distance, but at least 0;");
        for (int at = 0; at < gaps.length; at++) {
            Check.due("saved with the distance " + gaps[at], two(gaps[at]).place(1, 0, 7), behind[at]);
            Check.due("FUEL with the distance " + gaps[at], two(gaps[at]).place(1, 0, 8), 18600 - behind[at]);
        }

        Sentences.test(0, "the first one saves BASE * (s / 4) / 1000");
        for (int at = 0; at < gaps.length; at++) {
            Check.due("saved by the first, distance " + gaps[at], two(gaps[at]).place(0, 0, 7), first[at]);
            Check.due("FUEL of the first, distance " + gaps[at], two(gaps[at]).place(0, 0, 8), 18600 - first[at]);
        }

        Sentences.test(0, "with the s of the second one (0 if it is alone).");
        TruckPlatoons z = Check.loaded("road 0 1 60 80;truck 0 0 5 0;truck 0 0 5 0;truck 0 0 60 0;");
        Check.due("saved by the first of three", z.place(0, 0, 7), 613);
        TruckPlatoons lone = Check.loaded("road 0 1 60 80;truck 0 0 5 0;truck 1 0 5 0;");
        Check.due("saved alone", lone.place(0, 0, 7), 0);
        Check.due("saved alone by all", lone.count(6), 0);
    }

    private static TruckPlatoons two(int gap) {
        return Check.loaded("road 0 1 60 80;truck 0 0 5 0;truck 0 0 " + gap + " 0;");
    }

    private static void closing(String call, TruckPlatoons x, int... want) {
        Check.dueRow("ORDER of " + call, 0, truck -> x.position(truck, 0), 0, 1, 2);
        Check.dueRow("closing up of " + call, 0, truck -> x.place(truck, 0, 9), want);
    }

    private static void closingUp() {
        Sentences.test(0, "NEXT of a truck at a place is the road at the next place, none at the last one.");
        closing("ZIP's way", fan("0 1", "0 2", "0 1", "0 2"), 0, 0, 1, 1);
        // on road 1 and road 2 all routes end, so that nobody has another NEXT
        TruckPlatoons zip = fan("0 1", "0 2", "0 1", "0 2");
        Check.dueRow("closing up at the last place", 0, truck -> zip.place(truck, 1, 9), 0, 0, 0, 0);

        Sentences.test(0, "A member that is not the first closes up");
        Check.due("the first of ZIP", ZIP.place(0, 0, 9), 0);
        Check.due("one alone", fan("0 1").place(0, 0, 9), 0);

        Sentences.test(0, "if it has a NEXT,");
        closing("one that ends, behind one that goes on", fan("0", "0 1", "0"), 0, 0, 0);

        Sentences.test(0, "the member directly ahead has another NEXT");
        closing("the same NEXT directly ahead", fan("0 1", "0 1", "0 1"), 0, 0, 0);
        closing("the same NEXT ahead of it and another",
                fan("0 1", "0 2", "0 2", "0 1", "0 1", "0 2"), 0, 0, 0, 1, 0, 1);

        Sentences.test(0, "or none,");
        // in its ORDER one that ends is never ahead of two with the same NEXT, whose KEYs are greater; in others it is
        TruckPlatoons ends = Check.loaded(FAN + "truck 0 999 10 0 1;truck 0 999 10 0;truck 0 999 11 0 1;");
        Check.dueRow("ORDER", 0, position -> ends.member(0, 0, position), 0, 2, 1);
        Check.dueRow("best order", 0, position -> ends.bestMember(0, 0, position), 1, 0, 2);

        Sentences.test(0, "and some other member ahead has the same NEXT:");
        closing("other NEXTs ahead", fan("0 1", "0 2", "0 3"), 0, 0, 0);
        closing("the first one far ahead", fan("0 1", "0 2", "0 3", "0 1", "0 2", "0 3"), 0, 0, 0, 1, 1, 1);
    }

    private static void pairs() {
        Sentences.test(0, "What a PAIR saves there, two members directly one behind the other:");
        Check.due("with one between them", ZIP.pairSaved(1, 3), 2232 + 558);
        Check.due("with two between them", ZIP.pairSaved(0, 3), 0);
        Check.due("in different platoons", FORK.pairSaved(0, 3), 0);

        Sentences.test(0, "what the second one saves, and, if the first one of them is the first of the platoon,");
        TruckPlatoons x = fan("0", "0", "0");
        Check.due("the first two", x.pairSaved(0, 1), 2232 + 558);
        Check.due("the last two", x.pairSaved(1, 2), 2232);
    }

    private static void counts() {
        Sentences.test(7, "3 platoons of two members or more");
        Check.due("count(3)", Check.loaded(FAN + "truck 0 0 5 0;truck 0 0 5 0;truck 1 0 5 0;").count(3), 1);
        Check.due("count(3) of lone ones", Check.loaded(FAN + "truck 0 0 5 0;truck 1 0 5 0;").count(3), 0);

        Sentences.test(7, "what: 0 roads, 1 trucks, 2 places of all routes");
        String most = "road 0 1 9 50;road 1 0 9 50;" + "road 0 1 9 50;".repeat(28)
                + "truck 0 0 5 0 1 0 1 0 1 0 1 0 1;".repeat(12);
        Check.dueRow("count() of the greatest", 0, Check.loaded(most)::count, 30, 12, 120, 10, 12);

        Sentences.test(7, "5 FUEL of all trucks, 6 what all trucks save, 7 what closing up costs");
        Check.dueRow("count() of FORK", 5, FORK::count, 141164, 4836, 0);
        Check.dueRow("count() of ZIP", 5, ZIP::count, 136566, 12834, 600);
        Check.dueRow("count() without trucks", 5, Check.loaded(FAN)::count, 0, 0, 0);

        Sentences.test(7, "9 the greatest number of members of a platoon (0 without trucks)");
        Check.due("count(9) of twelve together", Check.loaded(most).count(9), 12);
        Check.due("count(9) of one", Check.loaded(FAN + "truck 0 0 5 0;").count(9), 1);
        Check.due("count(9) without trucks", Check.loaded(FAN).count(9), 0);
        Check.due("count(9) of a new object", new TruckPlatoons().count(9), 0);

        Sentences.test(7, ANY_OTHER);
        for (int what : new int[] {-1, 10, Integer.MIN_VALUE, Integer.MAX_VALUE}) {
            Check.due("count(" + what + ")", FORK.count(what), -1);
        }
    }

    private static void propertiesOfRoads() {
        Sentences.test(8, "4 its platoons, 5 how many trucks have it in their routes");
        TruckPlatoons x = Check.loaded("road 0 1 9 50;road 1 0 9 50;road 5 6 9 50;truck 0 0 5 0 1 0;truck 0 0 5 1;");
        Check.dueRow("a road that a truck has twice", 4, what -> x.road(0, what), 2, 1);
        Check.dueRow("a road of both", 4, what -> x.road(1, what), 2, 2);
        Check.dueRow("a road of none", 4, what -> x.road(2, what), 0, 0);

        Sentences.test(8, ANY_OTHER);
        for (int what : new int[] {-1, 6, Integer.MIN_VALUE, Integer.MAX_VALUE}) {
            Check.due("road(0, " + what + ")", FORK.road(0, what), -1);
        }

        Sentences.test(8, NO_ROAD);
        Check.dueOutside("road(.., 0)", INDEX, 0, 2, road -> FORK.road(road, 0));
        Check.dueOutside("road(.., 99)", INDEX, 0, 2, road -> FORK.road(road, 99));
        Check.dueIndex("road(0, 0) of a new object", () -> new TruckPlatoons().road(0, 0));
    }

    private static void propertiesOfTrucks() {
        Sentences.test(9, "7 what it saves at all places, 8 how often it closes up");
        TruckPlatoons x = fan("0 1", "0 2", "0 1");
        Check.dueRow("alone at the last place", 6, what -> x.truck(1, what), 2 * 18600 - 2232, 2232, 0);
        Check.dueRow("truck 2 of ZIP", 6, what -> ZIP.truck(2, what), 2 * 18600 - 2 * 2232 + 300, 2 * 2232, 1);
        Check.dueRow("how often those of ZIP close up", 0, truck -> ZIP.truck(truck, 8), 0, 0, 1, 1);

        Sentences.test(9, "3 places of its route");
        Check.due("places of the last truck of FORK", FORK.truck(3, 3), 1);

        Sentences.test(9, ANY_OTHER);
        for (int what : new int[] {-1, 9, Integer.MIN_VALUE, Integer.MAX_VALUE}) {
            Check.due("truck(0, " + what + ")", FORK.truck(0, what), -1);
        }

        Sentences.test(9, NO_TRUCK);
        Check.dueOutside("truck(.., 0)", INDEX, 0, 3, truck -> FORK.truck(truck, 0));
        Check.dueOutside("truck(.., 99)", INDEX, 0, 3, truck -> FORK.truck(truck, 99));
        Check.dueIndex("truck(0, 0) of a new object", () -> new TruckPlatoons().truck(0, 0));
    }

    private static void propertiesOfPlaces() {
        Sentences.test(10, "9 1 if it closes up there, otherwise 0");
        Check.dueRow("place(.., 0, 9) of ZIP", 0, truck -> ZIP.place(truck, 0, 9), 0, 0, 1, 1);

        Sentences.test(10, "10 its distance (0 for the first one of a platoon)");
        Check.dueRow("place(.., 0, 10) of ZIP", 0, truck -> ZIP.place(truck, 0, 10), 0, 10, 10, 10);
        Check.due("place(3, 0, 10) of FORK, alone", FORK.place(3, 0, 10), 0);

        Sentences.test(10, ANY_OTHER);
        for (int what : new int[] {-1, 11, Integer.MIN_VALUE, Integer.MAX_VALUE}) {
            Check.due("place(0, 0, " + what + ")", FORK.place(0, 0, what), -1);
        }

        Sentences.test(10, NO_PLACE);
        Check.dueOutside("place(.., 0, 0)", INDEX, 0, 3, truck -> FORK.place(truck, 0, 0));
        Check.dueOutside("place(2, .., 0)", INDEX, 0, 1, place -> FORK.place(2, place, 0));
        Check.dueOutside("place(3, .., 0)", INDEX, 0, 0, place -> FORK.place(3, place, 0));
        Check.dueOutside("place(3, .., 99)", INDEX, 0, 0, place -> FORK.place(3, place, 99));
    }

    private static void membersAtPlaces() {
        Sentences.test(11, NO_PLACE);
        Check.dueOutside("platoonOf(.., 0)", INDEX, 0, 3, truck -> FORK.platoonOf(truck, 0));
        Check.dueOutside("platoonOf(2, ..)", INDEX, 0, 1, place -> FORK.platoonOf(2, place));
        Check.dueOutside("platoonOf(3, ..)", INDEX, 0, 0, place -> FORK.platoonOf(3, place));

        Sentences.test(11, "Returns the number of the platoon on that road.");
        Check.dueRow("platoonOf(.., 0)", 0, truck -> FORK.platoonOf(truck, 0), 0, 0, 0, 1);
        Check.due("platoonOf(2, 1)", FORK.platoonOf(2, 1), 0);

        Sentences.test(12, "Returns 0 for the first one, and so on.");
        Check.dueRow("position(.., 0)", 0, truck -> FORK.position(truck, 0), 0, 2, 1, 0);

        Sentences.test(12, NO_PLACE);
        Check.dueOutside("position(.., 0)", INDEX, 0, 3, truck -> FORK.position(truck, 0));
        Check.dueOutside("position(2, ..)", INDEX, 0, 1, place -> FORK.position(2, place));
        Check.dueOutside("position(3, ..)", INDEX, 0, 0, place -> FORK.position(3, place));

        Sentences.test(13, "Returns the KEY of a truck at a place.");
        Check.dueRow("key(.., 0)", 0, truck -> FORK.key(truck, 0), 2, 1, 2, 0);

        Sentences.test(13, NO_PLACE);
        Check.dueOutside("key(.., 0)", INDEX, 0, 3, truck -> FORK.key(truck, 0));
        Check.dueOutside("key(2, ..)", INDEX, 0, 1, place -> FORK.key(2, place));
        Check.dueOutside("key(3, ..)", INDEX, 0, 0, place -> FORK.key(3, place));
    }

    private static void propertiesOfPlatoons() {
        Sentences.test(14, "what: 0 ENTER, 1 SPEED");
        Check.dueRow("FORK's truck 3", 0, what -> FORK.platoon(0, 1, what), 5, 80);
        Check.dueRow("FORK's truck 1, alone", 0, what -> FORK.platoon(2, 0, what), 45, 60);

        Sentences.test(14, "2 members, 3 what its members save, 4 how many close up behind it");
        Check.dueRow("a platoon of one", 2, what -> FORK.platoon(0, 1, what), 1, 0, 0);
        Check.dueRow("a platoon of four", 2, what -> ZIP.platoon(0, 0, what), 4, 558 + 3 * 2232, 2);

        Sentences.test(14, "5 its trucks (bit t for truck t)");
        Check.due("truck 3", FORK.platoon(0, 1, 5), 8);
        Check.due("trucks 0 and 2", FORK.platoon(1, 0, 5), 5);
        TruckPlatoons all = Check.loaded("road 0 1 60 80;" + "truck 0 999 5 0;".repeat(12));
        Check.due("all twelve", all.platoon(0, 0, 5), 4095);

        Sentences.test(14, ANY_OTHER);
        for (int what : new int[] {-1, 6, Integer.MIN_VALUE, Integer.MAX_VALUE}) {
            Check.due("platoon(0, 0, " + what + ")", FORK.platoon(0, 0, what), -1);
        }

        Sentences.test(14, NO_PLATOON);
        Check.dueOutside("platoon(.., 0, 0)", INDEX, 0, 2, road -> FORK.platoon(road, 0, 0));
        Check.dueOutside("platoon(0, .., 0)", INDEX, 0, 1, platoon -> FORK.platoon(0, platoon, 0));
        Check.dueOutside("platoon(0, .., 99)", INDEX, 0, 1, platoon -> FORK.platoon(0, platoon, 99));
        Check.dueIndex("a road without trucks", () -> Check.loaded(FAN + "truck 0 0 5 0;").platoon(1, 0, 0));
    }

    private static void members() {
        Sentences.test(15, "position: from 0");
        Check.dueRow("member(0, 0, ..)", 0, position -> FORK.member(0, 0, position), 0, 2, 1);

        Sentences.test(15, "NONE if it has not so many.");
        Check.due("member(0, 0, 3)", FORK.member(0, 0, 3), -1);
        Check.due("member(0, 1, 0)", FORK.member(0, 1, 0), 3);
        Check.due("member(0, 1, 1), ahead of no other platoon", FORK.member(0, 1, 1), -1);
        Check.due("member(0, 0, MAX)", FORK.member(0, 0, Integer.MAX_VALUE), -1);

        Sentences.test(15, NO_PLATOON);
        Check.dueOutside("member(.., 0, 0)", INDEX, 0, 2, road -> FORK.member(road, 0, 0));
        Check.dueOutside("member(0, .., 0)", INDEX, 0, 1, platoon -> FORK.member(0, platoon, 0));
        Check.dueIndex("member(3, 0, 99)", () -> FORK.member(3, 0, 99));
        Check.dueIndex("a road without trucks", () -> Check.loaded(FAN + "truck 0 0 5 0;").member(1, 0, 0));

        Sentences.test(15, "or position is negative");
        Check.dueIndex("member(0, 0, -1)", () -> FORK.member(0, 0, -1));
        Check.dueIndex("member(0, 1, -1), behind another platoon", () -> FORK.member(0, 1, -1));
        Check.dueIndex("member(0, 0, MIN)", () -> FORK.member(0, 0, Integer.MIN_VALUE));
    }

    private static void together() {
        Sentences.test(16, "Counts the platoons that two trucks are in together.");
        Check.due("two", FORK.together(0, 2), 2);
        Check.due("one", FORK.together(0, 1), 1);
        Check.due("none", FORK.together(0, 3), 0);

        Sentences.test(16, BOTH_THE_SAME);
        Check.due("together(0, 0)", FORK.together(0, 0), -3);
        Check.due("together(3, 3)", FORK.together(3, 3), -3);

        Sentences.test(16, NO_PAIR);
        Check.dueOutside("together(.., 0)", INDEX, 0, 3, truck -> FORK.together(truck, 0));
        Check.dueOutside("together(0, ..)", INDEX, 0, 3, other -> FORK.together(0, other));
        Check.dueOutside("together(.., ..)", INDEX, 0, 3, both -> FORK.together(both, both));
    }

    private static void pairSaved() {
        Sentences.test(17, "at all roads where they are directly one behind the other, in either order.");
        Check.due("pairSaved(0, 2)", FORK.pairSaved(0, 2), 279 + 1116 + 465 + 1860);
        Check.due("pairSaved(2, 0)", FORK.pairSaved(2, 0), 279 + 1116 + 465 + 1860);
        Check.due("pairSaved(0, 1)", FORK.pairSaved(0, 1), 0);

        Sentences.test(17, BOTH_THE_SAME);
        Check.due("pairSaved(0, 0)", FORK.pairSaved(0, 0), -3);
        Check.due("pairSaved(3, 3)", FORK.pairSaved(3, 3), -3);

        Sentences.test(17, NO_PAIR);
        Check.dueOutside("pairSaved(.., 0)", INDEX, 0, 3, truck -> FORK.pairSaved(truck, 0));
        Check.dueOutside("pairSaved(0, ..)", INDEX, 0, 3, other -> FORK.pairSaved(0, other));
        Check.dueOutside("pairSaved(.., ..)", INDEX, 0, 3, both -> FORK.pairSaved(both, both));
    }

    private static void run() {
        Sentences.test(18,
                "0 its place of the one, 1 of the other (NONE without a common road), 2 how many places it has");
        // FORK's truck 3 has road 0 alone; in the other world no road is common
        Check.dueRow("run(3, 0, ..)", 0, what -> FORK.run(3, 0, what), 0, 0, 1);
        TruckPlatoons x = fan("0", "1", "0 1");
        Check.dueRow("run() without a common road", 0, what -> x.run(0, 1, what), -1, -1, 0);
        Check.dueRow("run(1, 2, ..)", 0, what -> x.run(1, 2, what), 0, 1, 1);
        Check.dueRow("run(2, 1, ..)", 0, what -> x.run(2, 1, what), 1, 0, 1);
        Check.dueRow("run() without a common road then", 0, what -> x.run(1, 0, what), -1, -1, 0);

        Sentences.test(18, BOTH_THE_SAME);
        Check.dueRow("run(3, 3, ..)", 0, what -> FORK.run(3, 3, what), -3, -3, -3);

        Sentences.test(18, NO_PAIR);
        Check.dueOutside("run(.., 0, 0)", INDEX, 0, 3, truck -> FORK.run(truck, 0, 0));
        Check.dueOutside("run(0, .., 2)", INDEX, 0, 3, other -> FORK.run(0, other, 2));
        Check.dueOutside("run(.., .., 0)", INDEX, 0, 3, both -> FORK.run(both, both, 0));
        Check.dueIndex("run(4, 0, 3)", () -> FORK.run(4, 0, 3));

        Sentences.test(18, "Throws IllegalArgumentException if what is out of range");
        Check.dueOutside("run(0, 1, ..)", ARGUMENT, 0, 2, what -> FORK.run(0, 1, what));
        Check.dueOutside("run(0, 0, ..)", ARGUMENT, 0, 2, what -> FORK.run(0, 0, what));
    }

    private static void common() {
        Sentences.test(19, "Counts the different roads that stand in the routes of two trucks.");
        TruckPlatoons x = Check.loaded("road 0 1 9 50;road 1 0 9 50;road 1 2 9 50;"
                + "truck 0 0 5 0 1 0 2;truck 0 0 5 0 1 0 1;truck 0 0 5 2;");
        Check.due("roads that stand there twice", x.common(0, 1), 2);
        Check.due("a truck with itself", x.common(0, 0), 3);
        Check.due("no common road", x.common(1, 2), 0);

        Sentences.test(19, NO_PAIR);
        Check.dueOutside("common(.., 0)", INDEX, 0, 3, truck -> FORK.common(truck, 0));
        Check.dueOutside("common(0, ..)", INDEX, 0, 3, other -> FORK.common(0, other));
        Check.dueOutside("common(.., ..)", INDEX, 0, 3, both -> FORK.common(both, both));
    }

    private static void slack() {
        Sentences.test(20, "Returns DEADLINE minus ARRIVAL (negative if it is late).");
        TruckPlatoons x = Check.loaded(FAN + "truck 0 46 5 0;truck 0 45 5 0;truck 0 44 5 0;truck 2000 0 5 0;");
        Check.dueRow("slack()", 0, x::slack, 1, 0, -1, -2045);

        Sentences.test(20, NO_TRUCK);
        Check.dueOutside("slack()", INDEX, 0, 3, FORK::slack);
    }

    private static void neededSpeed() {
        // road 1 is entered at 45 and has 100 kilometers and the LIMIT 90
        Sentences.test(21, "Returns the least SPEED at a place with which LEAVE there is a minute or earlier,");
        Check.due("with 76 minutes, 6000 / 79 rounded up", FORK.neededSpeed(0, 1, 45 + 76), 79);
        Check.due("with 75 minutes, 6000 / 80", FORK.neededSpeed(0, 1, 45 + 75), 80);
        Check.due("with 74 minutes, 6000 / 82 rounded up", FORK.neededSpeed(0, 1, 45 + 74), 82);

        Sentences.test(21, "with ENTER as it is.");
        TruckPlatoons x = Check.loaded(Worlds.FORK);
        x.setWait(0, 1, 10);
        x.setSpeed(0, 1, 50);
        Check.due("with a WAIT", x.neededSpeed(0, 1, 55 + 75), 80);
        Check.due("SPEED then", x.place(0, 1, 2), 50);

        Sentences.test(21, "minute: 0 to 20000");
        Check.due("neededSpeed(0, 1, 0)", FORK.neededSpeed(0, 1, 0), -1);
        Check.due("neededSpeed(0, 1, 20000)", FORK.neededSpeed(0, 1, 20000), 40);

        Sentences.test(21, "Returns 40 to the LIMIT; NONE if none of these suffices.");
        Check.due("with 150 minutes, 6000 / 40", FORK.neededSpeed(0, 1, 45 + 150), 40);
        Check.due("with 149 minutes", FORK.neededSpeed(0, 1, 45 + 149), 41);
        Check.due("with 67 minutes, 6000 / 90 rounded up", FORK.neededSpeed(0, 1, 45 + 67), 90);
        Check.due("with 66 minutes, 6000 / 91 rounded up", FORK.neededSpeed(0, 1, 45 + 66), -1);
        Check.due("with no minute", FORK.neededSpeed(0, 1, 45), -1);

        Sentences.test(21, NO_PLACE);
        Check.dueOutside("neededSpeed(.., 0, 0)", INDEX, 0, 3, truck -> FORK.neededSpeed(truck, 0, 0));
        Check.dueOutside("neededSpeed(0, .., 0)", INDEX, 0, 1, place -> FORK.neededSpeed(0, place, 0));
        Check.dueOutside("neededSpeed(3, .., 0)", INDEX, 0, 0, place -> FORK.neededSpeed(3, place, 0));
        Check.dueIndex("neededSpeed(4, 0, -1)", () -> FORK.neededSpeed(4, 0, -1));

        Sentences.test(21, "Throws IllegalArgumentException if minute is out of range");
        Check.dueOutside("neededSpeed(0, 1, ..)", ARGUMENT, 0, 20000, minute -> FORK.neededSpeed(0, 1, minute));
    }
}
