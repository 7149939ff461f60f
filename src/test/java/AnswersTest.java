/** Promises 7 to 21: what the planner tells of roads, trucks, places and platoons. */
public final class AnswersTest {
    private static final TruckPlatoons FORK = Check.loaded(Worlds.FORK);
    private static final TruckPlatoons ZIP = Check.loaded(Worlds.ZIP);

    public static void main(String[] args) {
        counts();
        roads();
        trucks();
        places();
        orders();
        platoons();
        numbering();
        savings();
        pairs();
        runs();
        speeds();
        Check.end();
    }

    private static void counts() {
        // FUEL: 4 * 18600 + 2 * 31000 + 9600 less 279 + 1116 + 1116 and 465 + 1860
        Check.dueRow("count() of FORK", -1, FORK::count, -1, 3, 4, 7, 2, 1, 141164, 4836, 0, 0, 3, -1);
        // saved: 558 + 3 * 2232 on road 0, 558 + 2232 on either other road
        Check.dueRow("count() of ZIP", 0, ZIP::count, 3, 4, 8, 3, 0, 136566, 12834, 600, 0, 4);
        Check.dueRow("count() of a lone truck", 0, Check.loaded("road 0 1 1 40;truck 0 2 5 0;")::count,
                1, 1, 1, 0, 0, 190, 0, 0, 0, 1);
    }

    private static void roads() {
        Check.dueRow("road(0)", -1, what -> FORK.road(0, what), -1, 0, 1, 60, 100, 2, 4, -1);
        Check.dueRow("road(2)", 0, what -> FORK.road(2, what), 1, 3, 40, 60, 1, 1);
        TruckPlatoons ring = Check.loaded("road 0 1 9 50;road 1 0 9 50;road 5 6 9 50;truck 0 0 5 0 1 0;truck 0 0 5 1;");
        Check.dueRow("platoons and trucks of a road taken twice", 4, what -> ring.road(0, what), 2, 1);
        Check.dueRow("platoons and trucks of an unused road", 4, what -> ring.road(2, what), 0, 0);
        Check.dueIndex("road(-1, 0)", () -> FORK.road(-1, 0));
        Check.dueIndex("road(3, 0)", () -> FORK.road(3, 0));
        Check.dueIndex("road(3, 99)", () -> FORK.road(3, 99));
    }

    private static void trucks() {
        Check.dueRow("truck(0)", -1, what -> FORK.truck(0, what), -1, 0, 500, 10, 2, 120, 160, 48856, 744, 0, -1);
        Check.dueRow("truck(1)", 0, what -> FORK.truck(1, what), 0, 500, 20, 2, 85, 100, 27084, 1116, 0);
        Check.dueRow("truck(3)", 0, what -> FORK.truck(3, what), 5, 500, 10, 1, 50, 60, 18600, 0, 0);
        Check.dueRow("truck(2) of ZIP", 6, what -> ZIP.truck(2, what), 2 * 18600 - 2232 - 2232 + 300, 4464, 1);
        Check.dueRow("truck(3) of ZIP", 6, what -> ZIP.truck(3, what), 2 * 18600 - 2232 - 2232 + 300, 4464, 1);
        Check.dueIndex("truck(-1, 0)", () -> FORK.truck(-1, 0));
        Check.dueIndex("truck(4, 0)", () -> FORK.truck(4, 0));
        Check.dueIndex("truck(4, 99)", () -> FORK.truck(4, 99));
    }

    private static void places() {
        Check.dueRow("place(0, 0)", -1, what -> FORK.place(0, 0, what), -1, 0, 0, 80, 0, 0, 45, 18600, 279, 18321, 0, 0, -1);
        Check.dueRow("place(2, 0)", 0, what -> FORK.place(2, 0, what), 0, 0, 80, 0, 0, 45, 18600, 1116, 17484, 0, 30);
        Check.dueRow("place(1, 1)", 0, what -> FORK.place(1, 1, what), 2, 0, 60, 45, 45, 85, 9600, 0, 9600, 0, 0);
        Check.dueRow("place(2, 0) of ZIP", 6, what -> ZIP.place(2, 0, what), 18600, 2232, 16668, 1, 10);
        Check.dueRow("place(1, 0) of ZIP", 6, what -> ZIP.place(1, 0, what), 18600, 2232, 16368, 0, 10);
        TruckPlatoons waiting = Check.loaded(Worlds.FORK);
        waiting.setWait(3, 0, 20);
        Check.dueRow("a first place with a WAIT", 3, what -> waiting.place(3, 0, what), 5, 25, 70);
        waiting.setWait(0, 1, 20);
        Check.dueRow("a later place with a WAIT", 3, what -> waiting.place(0, 1, what), 45, 65, 140);
        // 60 * 60 / 79 is 45 and a rest; 79 * 79 / 40 is 156 and a rest
        waiting.setSpeed(3, 0, 79);
        Check.dueRow("divisions with a rest", 5, what -> waiting.place(3, 0, what), 25 + 46, 60 * 306);
        Check.dueIndex("place(4, 0, 0)", () -> FORK.place(4, 0, 0));
        Check.dueIndex("place(-1, 0, 0)", () -> FORK.place(-1, 0, 0));
        Check.dueIndex("place(3, 1, 0)", () -> FORK.place(3, 1, 0));
        Check.dueIndex("place(3, -1, 99)", () -> FORK.place(3, -1, 99));
    }

    private static void orders() {
        Check.dueRow("position() on road 0", 0, truck -> FORK.position(truck, 0), 0, 2, 1, 0);
        Check.dueRow("key() on road 0", 0, truck -> FORK.key(truck, 0), 2, 1, 2, 0);
        Check.dueRow("platoonOf() on road 0", 0, truck -> FORK.platoonOf(truck, 0), 0, 0, 0, 1);
        Check.dueRow("key() of truck 2", 0, place -> FORK.key(2, place), 2, 1);
        Check.dueRow("position() of ZIP", 0, truck -> ZIP.position(truck, 0), 0, 1, 2, 3);
        // the routes share roads 0 and 1, then differ, then both have road 3, which counts no more
        TruckPlatoons x = Check.loaded("road 0 1 9 50;road 1 2 9 50;road 1 2 9 50;road 2 3 9 50;"
                + "truck 0 0 5 0 1 3;truck 0 0 5 0 2 3;");
        Check.dueRow("key() of routes that part", 0, place -> x.key(0, place), 1, 0, 1);
        for (int truck = -1; truck <= 4; truck += 5) {
            int none = truck;
            Check.dueIndex("position(" + none + ", 0)", () -> FORK.position(none, 0));
            Check.dueIndex("key(" + none + ", 0)", () -> FORK.key(none, 0));
            Check.dueIndex("platoonOf(" + none + ", 0)", () -> FORK.platoonOf(none, 0));
        }
        for (int place = -1; place <= 1; place += 2) {
            int none = place;
            Check.dueIndex("position(3, " + none + ")", () -> FORK.position(3, none));
            Check.dueIndex("key(3, " + none + ")", () -> FORK.key(3, none));
            Check.dueIndex("platoonOf(3, " + none + ")", () -> FORK.platoonOf(3, none));
        }
    }

    private static void platoons() {
        Check.dueRow("platoon(0, 0)", -1, what -> FORK.platoon(0, 0, what), -1, 0, 80, 3, 2511, 0, 7, -1);
        Check.dueRow("platoon(0, 1)", 0, what -> FORK.platoon(0, 1, what), 5, 80, 1, 0, 0, 8);
        Check.dueRow("platoon(0, 0) of ZIP", 0, what -> ZIP.platoon(0, 0, what), 0, 80, 4, 7254, 2, 15);
        Check.dueRow("member(0, 0)", 0, position -> FORK.member(0, 0, position), 0, 2, 1, -1, -1);
        Check.dueRow("member(0, 1)", 0, position -> FORK.member(0, 1, position), 3, -1);
        Check.due("member() far behind", FORK.member(0, 1, Integer.MAX_VALUE), -1);
        Check.dueIndex("platoon(0, 2, 0)", () -> FORK.platoon(0, 2, 0));
        Check.dueIndex("platoon(0, -1, 0)", () -> FORK.platoon(0, -1, 0));
        Check.dueIndex("platoon(3, 0, 99)", () -> FORK.platoon(3, 0, 99));
        Check.dueIndex("platoon(-1, 0, 0)", () -> FORK.platoon(-1, 0, 0));
        Check.dueIndex("member(0, 2, 0)", () -> FORK.member(0, 2, 0));
        Check.dueIndex("member(3, 0, 0)", () -> FORK.member(3, 0, 0));
        Check.dueIndex("member(0, 0, -1)", () -> FORK.member(0, 0, -1));
        TruckPlatoons unused = Check.loaded("road 0 1 9 50;");
        Check.dueIndex("platoon(0, 0, 0) of an unused road", () -> unused.platoon(0, 0, 0));
    }

    /** By ENTER first, then by SPEED: truck 2 enters earlier, truck 1 is slower than truck 0. */
    private static void numbering() {
        TruckPlatoons x = Check.loaded("road 0 1 60 80;truck 9 0 5 0;truck 9 0 5 0;truck 3 0 5 0;");
        x.setSpeed(1, 0, 79);
        Check.dueRow("platoonOf()", 0, truck -> x.platoonOf(truck, 0), 2, 1, 0);
        Check.dueRow("ENTER of the platoons", 0, platoon -> x.platoon(0, platoon, 0), 3, 9, 9);
        Check.dueRow("SPEED of the platoons", 0, platoon -> x.platoon(0, platoon, 1), 80, 79, 80);
    }

    /** With a distance of 49 s is 3, a quarter of which is 0; with 50 or more nothing is saved. */
    private static void savings() {
        int[] gaps = {5, 49, 50, 60};
        int[] behind = {18600 * 135 / 1000, 18600 * 3 / 1000, 0, 0};
        int[] first = {18600 * 33 / 1000, 0, 0, 0};
        for (int at = 0; at < gaps.length; at++) {
            TruckPlatoons x = Check.loaded("road 0 1 60 80;truck 0 0 5 0;truck 0 0 " + gaps[at] + " 0;");
            Check.due("saved behind, GAP " + gaps[at], x.place(1, 0, 7), behind[at]);
            Check.due("saved by the first, GAP " + gaps[at], x.place(0, 0, 7), first[at]);
            Check.due("distance, GAP " + gaps[at], x.place(1, 0, 10), gaps[at]);
            Check.due("bestRoad(), GAP " + gaps[at], x.bestRoad(), behind[at] > 0 ? 0 : -1);
        }
        TruckPlatoons x = Check.loaded("road 0 1 60 80;truck 0 0 40 0;truck 0 0 5 0;truck 0 0 6 0;");
        Check.dueRow("distance to the GAP ahead", 0, truck -> x.place(truck, 0, 10), 0, 40, 6);
    }

    private static void pairs() {
        Check.due("together(0, 2)", FORK.together(0, 2), 2);
        Check.due("together(2, 1)", FORK.together(2, 1), 1);
        Check.due("together(0, 3)", FORK.together(0, 3), 0);
        Check.due("together(1, 1)", FORK.together(1, 1), -3);
        Check.due("pairSaved(0, 2)", FORK.pairSaved(0, 2), 279 + 1116 + 465 + 1860);
        Check.due("pairSaved(2, 0)", FORK.pairSaved(2, 0), 279 + 1116 + 465 + 1860);
        Check.due("pairSaved(1, 2)", FORK.pairSaved(1, 2), 1116);
        Check.due("pairSaved(0, 1), with one between", FORK.pairSaved(0, 1), 0);
        Check.due("pairSaved(0, 3)", FORK.pairSaved(0, 3), 0);
        Check.due("pairSaved(3, 3)", FORK.pairSaved(3, 3), -3);
        for (int truck = -1; truck <= 4; truck += 5) {
            int none = truck;
            Check.dueIndex("together(" + none + ", 0)", () -> FORK.together(none, 0));
            Check.dueIndex("together(0, " + none + ")", () -> FORK.together(0, none));
            Check.dueIndex("together(" + none + ", " + none + ")", () -> FORK.together(none, none));
            Check.dueIndex("pairSaved(" + none + ", 0)", () -> FORK.pairSaved(none, 0));
            Check.dueIndex("pairSaved(0, " + none + ")", () -> FORK.pairSaved(0, none));
            Check.dueIndex("common(" + none + ", 0)", () -> FORK.common(none, 0));
            Check.dueIndex("common(0, " + none + ")", () -> FORK.common(0, none));
            Check.dueIndex("run(" + none + ", 0, 7)", () -> FORK.run(none, 0, 7));
            Check.dueIndex("run(0, " + none + ", 7)", () -> FORK.run(0, none, 7));
            Check.dueIndex("slack(" + none + ")", () -> FORK.slack(none));
        }
    }

    private static void runs() {
        // truck 0 drives 0 1 2 0 1 3, truck 1 drives 1 2 0 1, truck 2 drives 4
        TruckPlatoons x = Check.loaded("road 0 1 9 50;road 1 2 9 50;road 2 0 9 50;road 2 5 9 50;road 7 8 9 50;"
                + "truck 0 0 5 0 1 2 0 1 3;truck 0 0 5 1 2 0 1;truck 0 0 5 4;");
        Check.dueRow("run(0, 1)", 0, what -> x.run(0, 1, what), 0, 2, 2);
        Check.dueRow("run(1, 0)", 0, what -> x.run(1, 0, what), 0, 1, 4);
        Check.dueRow("run(0, 2)", 0, what -> x.run(0, 2, what), -1, -1, 0);
        Check.dueRow("run(2, 2)", 0, what -> x.run(2, 2, what), -3, -3, -3);
        Check.due("common(0, 1)", x.common(0, 1), 3);
        Check.due("common(1, 0)", x.common(1, 0), 3);
        Check.due("common(0, 0)", x.common(0, 0), 4);
        Check.due("common(0, 2)", x.common(0, 2), 0);
        Check.dueArgument("run(0, 1, 3)", () -> x.run(0, 1, 3));
        Check.dueArgument("run(0, 1, -1)", () -> x.run(0, 1, -1));
        Check.dueArgument("run(0, 0, -1)", () -> x.run(0, 0, -1));
    }

    private static void speeds() {
        Check.dueRow("slack()", 0, FORK::slack, 380, 415, -20, 450);
        // road 1 is entered at 45: 6000 / 90 is 66 and a rest, 6000 / 40 is 150
        Check.due("neededSpeed at the LIMIT", FORK.neededSpeed(0, 1, 112), 90);
        Check.due("neededSpeed above the LIMIT", FORK.neededSpeed(0, 1, 111), -1);
        Check.due("neededSpeed 80", FORK.neededSpeed(0, 1, 120), 80);
        Check.due("neededSpeed 79", FORK.neededSpeed(0, 1, 121), 79);
        Check.due("neededSpeed 41", FORK.neededSpeed(0, 1, 194), 41);
        Check.due("neededSpeed 40", FORK.neededSpeed(0, 1, 195), 40);
        Check.due("neededSpeed, latest minute", FORK.neededSpeed(0, 1, 20000), 40);
        Check.due("neededSpeed, first minute", FORK.neededSpeed(0, 1, 0), -1);
        Check.dueArgument("neededSpeed(0, 1, -1)", () -> FORK.neededSpeed(0, 1, -1));
        Check.dueArgument("neededSpeed(0, 1, 20001)", () -> FORK.neededSpeed(0, 1, 20001));
        Check.dueIndex("neededSpeed(0, 2, -1)", () -> FORK.neededSpeed(0, 2, -1));
        Check.dueIndex("neededSpeed(4, 0, 0)", () -> FORK.neededSpeed(4, 0, 0));
    }
}
