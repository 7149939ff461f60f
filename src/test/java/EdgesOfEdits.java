import java.util.function.IntUnaryOperator;

/** A test for each sentence with an edge about merging and edits, and those of promises 22 to 31, 43, 44, 46 and 47. */
final class EdgesOfEdits {
    private static final Class<IndexOutOfBoundsException> INDEX = IndexOutOfBoundsException.class;
    private static final Class<IllegalArgumentException> ARGUMENT = IllegalArgumentException.class;

    private static final String NO_TRUCK = "Throws IndexOutOfBoundsException if there is no such truck";
    private static final String NO_PLACE = "Throws IndexOutOfBoundsException if there is no such truck or place";
    private static final String NO_PAIR =
            "Throws IndexOutOfBoundsException if there is no truck with one of these numbers";

    /** 45 minutes at 80. */
    private static final String ROAD = "road 0 1 60 80;";
    private static final String NEXT = "road 1 2 60 80;";

    private EdgesOfEdits() {
    }

    static void all() {
        runs();
        runSpeeds();
        runWaits();
        possible();
        gainOfMerging();
        edits();
        undoing();
        orderOfChecks();
        changesNothing();
        setWait();
        setSpeed();
        setStart();
        reason();
        merge();
        gain();
        bestPartner();
        mergeAll();
        mergeAllOrder();
        hurry();
        relax();
        play();
        playErrors();
        undo();
        saveSnapshot();
        restoreSnapshot();
    }

    private static TruckPlatoons fork() {
        return Check.loaded(Worlds.FORK);
    }

    private static void run(String call, TruckPlatoons x, int one, int other, int... want) {
        Check.dueRow("run() of " + call, 0, what -> x.run(one, other, what), want);
    }

    private static void runs() {
        Sentences.test(0,
                "MERGING two trucks a and b. Their RUN: the least place i of a whose road stands in the route of b,");
        TruckPlatoons x = Check.loaded("road 0 1 9 50;road 1 2 9 50;road 2 0 9 50;road 2 5 9 50;road 7 0 9 50;"
                + "truck 0 999 5 4 0 1 3;truck 0 999 5 1 2 0 1;truck 0 999 5 0 1 2 0 1 2 0 1 2 0;"
                + "truck 0 999 5 0 1 2 0 1 2 0 1 2 0;truck 0 999 5 4;");
        run("0 and 1", x, 0, 1, 1, 2, 2);
        run("1 and 0", x, 1, 0, 0, 2, 1);

        Sentences.test(0, "the least place j of b with this road,");
        run("1 and 2", x, 1, 2, 0, 1, 4);
        run("0 and 2", x, 0, 2, 1, 0, 2);

        Sentences.test(0, "and as many places from both on as have the same roads.");
        run("ten places", x, 2, 3, 0, 0, 10);
        run("one place", x, 0, 4, 0, 0, 1);
        run("none", x, 1, 4, -1, -1, 0);
        run("to the end of the one", x, 1, 3, 0, 1, 4);
        run("to the end of the other", x, 3, 1, 0, 2, 2);
    }

    /** Trucks 0 and 1 have roads 0 to 2 and 1 to 3. */
    private static TruckPlatoons staggered() {
        return Check.loaded("road 0 1 60 90;road 1 2 60 90;road 2 3 60 90;road 3 4 60 90;"
                + "truck 0 9999 10 0 1 2;truck 40 9999 10 1 2 3;");
    }

    private static void runSpeeds() {
        Sentences.test(0, "At each place of the RUN both get the lesser one of both SPEEDs.");
        TruckPlatoons x = staggered();
        Check.due("the script", Check.play(x, "speed 0 0 50;speed 0 1 60;speed 1 1 70;speed 1 2 40;merge 0 1;"), 5);
        Check.dueRow("SPEEDs of the one", 0, place -> x.place(0, place, 2), 50, 60, 70);
        Check.dueRow("SPEEDs of the other", 0, place -> x.place(1, place, 2), 60, 70, 40);
        TruckPlatoons y = staggered();
        Check.due("the script", Check.play(y, "speed 0 1 90;speed 1 0 90;merge 0 1;"), 3);
        Check.due("the same SPEED of both", y.place(0, 1, 2), 90);
        Check.due("the same SPEED of the other", y.place(1, 0, 2), 90);
    }

    private static void runWaits() {
        Sentences.test(0,
                "At its first place, the truck whose READY is less gets the difference of both READYs as its WAIT,");
        // READY is 45 and 40; the WAITs there do not count
        TruckPlatoons x = staggered();
        Check.due("the script", Check.play(x, "wait 0 1 70;wait 1 0 90;merge 0 1;"), 3);
        Check.due("WAIT of the early one", x.place(1, 0, 1), 5);
        Check.due("ENTER of the one", x.place(0, 1, 4), 45);
        Check.due("ENTER of the other", x.place(1, 0, 4), 45);

        Sentences.test(0, "the other one 0 (both 0, if they are the same);");
        Check.due("WAIT of the late one", x.place(0, 1, 1), 0);
        TruckPlatoons same = staggered();
        Check.due("the script", Check.play(same, "wait 0 1 70;wait 1 0 90;start 1 45;merge 1 0;"), 4);
        Check.due("WAIT of the one", same.place(0, 1, 1), 0);
        Check.due("WAIT of the other", same.place(1, 0, 1), 0);

        Sentences.test(0, "at the other places of the RUN both get the WAIT 0.");
        TruckPlatoons y = staggered();
        Check.due("the script", Check.play(y, "wait 0 0 1;wait 0 2 2;wait 1 1 3;wait 1 2 4;merge 0 1;"), 5);
        Check.dueRow("WAITs of the one", 0, place -> y.place(0, place, 1), 1, 0, 0);
        Check.dueRow("WAITs of the other", 0, place -> y.place(1, place, 1), 6, 0, 4);
    }

    private static void possible() {
        Sentences.test(0, "It is possible if the RUN has places,");
        TruckPlatoons x = Check.loaded(ROAD + NEXT + "truck 0 999 5 0;truck 0 999 5 1;truck 0 999 5 0 1;");
        Check.due("without a RUN", x.merge(0, 1), -3);
        Check.due("with one place", x.merge(0, 2), 1);

        Sentences.test(0, "the difference is at most 120,");
        for (int start = 119; start <= 121; start++) {
            TruckPlatoons y = Check.loaded(Worlds.apart(start, 9999, 9999));
            int want = start <= 120 ? 2 : -3;
            Check.due("merge(0, 1), apart by " + start, y.merge(0, 1), want);
            TruckPlatoons z = Check.loaded(Worlds.apart(start, 9999, 9999));
            Check.due("merge(1, 0), apart by " + start, z.merge(1, 0), want);
            Check.due("WAIT then", y.place(0, 0, 1), start <= 120 ? start : 0);
        }

        Sentences.test(0, "and no truck that is not late becomes late.");
        // behind a merging both arrive at 30 + 90; before it truck 0 arrives at 90
        Check.due("to the minute", Check.loaded(Worlds.apart(30, 120, 120)).merge(0, 1), 2);
        Check.due("by a minute", Check.loaded(Worlds.apart(30, 119, 120)).merge(0, 1), -3);
        Check.due("one late by a minute already", Check.loaded(Worlds.apart(30, 89, 120)).merge(0, 1), 2);
        Check.due("one just in time", Check.loaded(Worlds.apart(30, 90, 120)).merge(0, 1), -3);
        Check.due("both late already", Check.loaded(Worlds.apart(30, 0, 0)).merge(0, 1), 2);
    }

    private static void gainOfMerging() {
        Sentences.test(0, "GAIN of merging: FUEL of all trucks at all places now, less that behind it.");
        TruckPlatoons x = Check.loaded(Worlds.apart(30, 999, 999));
        int now = x.count(5);
        int gain = x.gain(0, 1);
        x.merge(0, 1);
        Check.due("FUEL behind it", x.count(5), now - gain);
        // a third truck, which truck 0 leaves, loses 2232 or 558 on either road
        TruckPlatoons y = Check.loaded(ROAD + NEXT + "truck 0 999 10 0 1;truck 0 999 10 0 1;truck 30 999 10 0;");
        Check.due("with what a third truck loses", y.gain(0, 2), 2790 - 2 * 2790);
        Check.due("no difference", y.gain(0, 1), 0);
    }

    private static void edits() {
        Sentences.test(0, "setWait(), setSpeed(), setStart(), merge(), hurry(), relax() and mergeAll()");
        TruckPlatoons x = fork();
        Check.dueRow("edits", 0, at -> {
            edit(x, at);
            return x.count(8);
        }, 1, 2, 3, 4, 5, 6, 7);

        Sentences.test(0, "(also by a script, each command that was done an edit of its own)");
        TruckPlatoons y = fork();
        Check.due("seven commands",
                Check.play(y, "wait 0 0 1;speed 0 0 50;start 0 1;merge 0 1;hurry 0;relax 0;all;"), 7);
        Check.due("edits", y.count(8), 7);
        Check.due("two commands, then one that fails", Check.play(y, "start 0 9;start 0 8;merge 0 0;start 0 7;"), 2);
        Check.due("edits then", y.count(8), 9);
        y.undo();
        Check.due("START behind one undo()", y.truck(0, 0), 9);
        Check.play(y, "all;start 0 9;start");
        Check.due("edits behind a script with an error", y.count(8), 8);

        Sentences.test(0, "are edits if they do not throw and return no error code;");
        TruckPlatoons z = fork();
        Check.dueIndex("setWait(4, 0, 0)", () -> z.setWait(4, 0, 0));
        Check.dueArgument("setWait(0, 0, 121)", () -> z.setWait(0, 0, 121));
        Check.dueIndex("setSpeed(0, 2, 40)", () -> z.setSpeed(0, 2, 40));
        Check.dueArgument("setSpeed(0, 0, 101)", () -> z.setSpeed(0, 0, 101));
        Check.dueIndex("setStart(4, 0)", () -> z.setStart(4, 0));
        Check.dueArgument("setStart(0, 2001)", () -> z.setStart(0, 2001));
        Check.dueIndex("merge(0, 4)", () -> z.merge(0, 4));
        Check.due("merge(0, 0)", z.merge(0, 0), -3);
        Check.dueIndex("hurry(4)", () -> z.hurry(4));
        Check.dueIndex("relax(4)", () -> z.relax(4));
        Check.due("edits", z.count(8), 0);
        Check.due("undo()", z.undo(), -1);
    }

    private static void edit(TruckPlatoons x, int kind) {
        switch (kind) {
            case 0 -> x.setWait(0, 1, 7);
            case 1 -> x.setSpeed(0, 1, 50);
            case 2 -> x.setStart(0, 9);
            case 3 -> x.merge(0, 1);
            case 4 -> x.hurry(2);
            case 5 -> x.relax(1);
            default -> x.mergeAll();
        }
    }

    private static void undoing() {
        Sentences.test(0, "each can be undone, also if nothing became different,");
        TruckPlatoons x = Check.loaded(Worlds.apart(0, 90, 90));
        String first = Worlds.state(x);
        Check.due("WAIT as it is", x.setWait(0, 0, 0), 0);
        Check.due("SPEED as it is", x.setSpeed(0, 0, 80), 80);
        Check.due("START as it is", x.setStart(0, 0), 0);
        Check.due("merge() of two together", x.merge(0, 1), 2);
        Check.due("hurry() of one in time", x.hurry(0), 0);
        Check.due("relax() of one just in time", x.relax(0), 0);
        Check.due("mergeAll() without a GAIN", x.mergeAll(), 0);
        Check.due("edits", x.count(8), 7);
        for (int left = 6; left >= 0; left--) {
            Check.due("undo()", x.undo(), left);
        }
        Check.due("undo() of nothing", x.undo(), -1);
        Check.dueText("what there is", Worlds.state(x), first);

        Sentences.test(0, "the latest 15 one by one:");
        for (int edits = 14; edits <= 16; edits++) {
            latest(edits);
        }
        latest(46);

        Sentences.test(0, "all waits, speeds and starts are as ahead of it.");
        for (int kind = 0; kind < 7; kind++) {
            TruckPlatoons y = fork();
            y.setWait(3, 0, 3);
            y.setSpeed(3, 0, 90);
            y.setStart(3, 300);
            String before = Worlds.state(y).replaceFirst("3 3 -?\\d+", "");
            edit(y, kind);
            Check.due("edit " + kind + " changed something", Worlds.state(y).equals(before), false);
            Check.due("undo() of edit " + kind, y.undo(), 3);
            Check.dueText("behind undo() of edit " + kind, Worlds.state(y).replaceFirst("3 3 -?\\d+", ""), before);
        }
    }

    private static void latest(int edits) {
        TruckPlatoons x = fork();
        for (int edit = 1; edit <= edits; edit++) {
            x.setStart(0, edit);
        }
        int kept = Math.min(edits, 15);
        Check.due("edits of " + edits, x.count(8), kept);
        for (int left = kept - 1; left >= 0; left--) {
            Check.due("undo() of " + edits, x.undo(), left);
            Check.due("START", x.truck(0, 0), edits - kept + left);
        }
        Check.due("undo() of no more", x.undo(), -1);
        Check.due("START then", x.truck(0, 0), edits - kept);
    }

    private static void orderOfChecks() {
        Sentences.test(0, "Exceptions are checked in the order in which a method lists them,");
        TruckPlatoons x = Check.loaded(ROAD + "truck 0 999 10 0;".repeat(7));
        Check.dueIndex("run(7, 0, 3)", () -> x.run(7, 0, 3));
        Check.dueIndex("neededSpeed(0, 1, -1)", () -> x.neededSpeed(0, 1, -1));
        Check.dueIndex("setWait(0, 1, 121)", () -> x.setWait(0, 1, 121));
        Check.dueIndex("setSpeed(7, 0, 39)", () -> x.setSpeed(7, 0, 39));
        Check.dueIndex("setStart(7, -1)", () -> x.setStart(7, -1));
        Check.dueIndex("gain(7, 7)", () -> x.gain(7, 7));
        Check.dueIndex("orderLoss(0, 1)", () -> x.orderLoss(0, 1));
        Check.dueIndex("bestMember(0, 0, -1)", () -> x.bestMember(0, 0, -1));

        Sentences.test(0, "and ahead of error codes.");
        Check.dueIndex("together(7, 7)", () -> x.together(7, 7));
        Check.dueIndex("pairSaved(-1, -1)", () -> x.pairSaved(-1, -1));
        Check.dueIndex("run(7, 7, 0)", () -> x.run(7, 7, 0));
        Check.dueArgument("run(0, 0, 3)", () -> x.run(0, 0, 3));
        Check.dueIndex("merge(7, 7)", () -> x.merge(7, 7));
        Check.dueIndex("reason(7, 7)", () -> x.reason(7, 7));
    }

    private static void changesNothing() {
        Sentences.test(0, "A call that throws an exception, or returns false or an error code, changes nothing,");
        TruckPlatoons x = fork();
        x.setWait(0, 0, 9);
        x.setSpeed(0, 1, 50);
        x.saveSnapshot(0);
        x.write(1);
        Check.play(x, "all");
        Check.type(x, "road");
        String before = Worlds.state(x);
        for (int call = 0; call < 18; call++) {
            int made = call;
            refused(x, made);
            Check.dueText("what there is behind call " + made, Worlds.state(x), before);
        }
        Check.due("errorCode()", x.errorCode(), 1);
        Check.due("errorPosition()", x.errorPosition(), 3);
        Check.due("the buffer", x.truncateInput(4), 4);
        Check.due("undo()", x.undo(), 1);
        Check.due("the second undo()", x.undo(), 0);
        Check.due("the snapshot", x.restoreSnapshot(0), true);
        Check.due("its WAIT", x.place(0, 0, 1), 9);
        Check.due("its SPEED", x.place(0, 1, 2), 50);
        Check.due("the other snapshot", x.restoreSnapshot(1), false);
    }

    private static void refused(TruckPlatoons x, int call) {
        switch (call) {
            case 0 -> Check.dueIndex("setWait", () -> x.setWait(0, 2, 0));
            case 1 -> Check.dueArgument("setWait", () -> x.setWait(0, 0, -1));
            case 2 -> Check.dueIndex("setSpeed", () -> x.setSpeed(-1, 0, 60));
            case 3 -> Check.dueArgument("setSpeed", () -> x.setSpeed(0, 1, 91));
            case 4 -> Check.dueIndex("setStart", () -> x.setStart(4, 7));
            case 5 -> Check.dueArgument("setStart", () -> x.setStart(0, 2001));
            case 6 -> Check.dueIndex("merge", () -> x.merge(0, 4));
            case 7 -> Check.due("merge", x.merge(2, 2), -3);
            case 8 -> Check.dueState("gain", () -> x.gain(1, 1));
            case 9 -> Check.dueIndex("hurry", () -> x.hurry(4));
            case 10 -> Check.dueIndex("relax", () -> x.relax(-1));
            case 11 -> Check.dueIndex("write", () -> x.write(4));
            case 12 -> Check.due("saveSnapshot(2)", x.saveSnapshot(2), false);
            case 13 -> Check.due("restoreSnapshot(1)", x.restoreSnapshot(1), false);
            case 14 -> Check.due("restoreSnapshot(-1)", x.restoreSnapshot(-1), false);
            case 15 -> Check.due("truncateInput", x.truncateInput(5), -1);
            case 16 -> Check.due("together", x.together(0, 0), -3);
            default -> Check.dueIndex("bestPartner", () -> x.bestPartner(4));
        }
    }

    private static void setWait() {
        TruckPlatoons x = fork();
        Sentences.test(22, "minutes: 0 to 120");
        Check.dueRow("setWait(0, 0, 0), then 120, then 0", 0, at -> x.setWait(0, 0, at % 2 * 120), 0, 0, 120, 0);

        Sentences.test(22, NO_PLACE);
        Check.dueOutside("setWait(.., 0, 0)", INDEX, 0, 3, truck -> x.setWait(truck, 0, 0));
        Check.dueOutside("setWait(2, .., 0)", INDEX, 0, 1, place -> x.setWait(2, place, 0));
        Check.dueOutside("setWait(3, .., 0)", INDEX, 0, 0, place -> x.setWait(3, place, 0));
        Check.dueIndex("setWait(0, 0, 0) of a new object", () -> new TruckPlatoons().setWait(0, 0, 0));

        Sentences.test(22, "Throws IllegalArgumentException if minutes is out of range");
        Check.dueOutside("setWait(0, 1, ..)", ARGUMENT, 0, 120, minutes -> x.setWait(0, 1, minutes));
        Check.due("WAIT then", x.place(0, 1, 1), 120);
    }

    private static void setSpeed() {
        TruckPlatoons x = fork();
        Sentences.test(23, "speed: 40 to the LIMIT of the road");
        Check.due("setSpeed(2, 0, 100)", x.setSpeed(2, 0, 100), 80);
        Check.due("setSpeed(2, 0, 40)", x.setSpeed(2, 0, 40), 100);
        Check.due("setSpeed(2, 1, 90)", x.setSpeed(2, 1, 90), 80);
        Check.due("setSpeed(1, 1, 60)", x.setSpeed(1, 1, 60), 60);

        Sentences.test(23, NO_PLACE);
        Check.dueOutside("setSpeed(.., 0, 40)", INDEX, 0, 3, truck -> x.setSpeed(truck, 0, 40));
        Check.dueOutside("setSpeed(2, .., 40)", INDEX, 0, 1, place -> x.setSpeed(2, place, 40));
        Check.dueOutside("setSpeed(3, .., 40)", INDEX, 0, 0, place -> x.setSpeed(3, place, 40));

        Sentences.test(23, "Throws IllegalArgumentException if speed is out of range");
        Check.dueOutside("on road 0", ARGUMENT, 40, 100, speed -> x.setSpeed(0, 0, speed));
        Check.dueOutside("on road 1", ARGUMENT, 40, 90, speed -> x.setSpeed(0, 1, speed));
        Check.dueOutside("on road 2", ARGUMENT, 40, 60, speed -> x.setSpeed(1, 1, speed));
        Check.due("SPEED then", x.place(1, 1, 2), 60);
    }

    private static void setStart() {
        TruckPlatoons x = fork();
        Sentences.test(24, "minute: 0 to 2000");
        Check.due("setStart(3, 2000)", x.setStart(3, 2000), 5);
        Check.due("setStart(3, 0)", x.setStart(3, 0), 2000);

        Sentences.test(24, NO_TRUCK);
        Check.dueOutside("setStart(.., 0)", INDEX, 0, 3, truck -> x.setStart(truck, 0));

        Sentences.test(24, "Throws IllegalArgumentException if minute is out of range");
        Check.dueOutside("setStart(0, ..)", ARGUMENT, 0, 2000, minute -> x.setStart(0, minute));
        Check.due("START then", x.truck(0, 0), 2000);
    }

    private static void reason() {
        Sentences.test(25, "Returns 0 if they can, 1 if both are the same, 2 if there is no RUN,");
        TruckPlatoons x = Check.loaded(ROAD + NEXT + "truck 0 999 10 0;truck 0 999 10 0 1;truck 999 999 10 1;");
        Check.due("two that can", x.reason(0, 1), 0);
        Check.due("the other way round", x.reason(1, 0), 0);
        Check.due("the same", x.reason(0, 0), 1);
        Check.due("no RUN", x.reason(0, 2), 2);
        Check.due("no RUN, the other way round", x.reason(2, 0), 2);

        Sentences.test(25, "3 if the difference is greater than 120,");
        for (int start = 120; start <= 121; start++) {
            int want = start > 120 ? 3 : 0;
            Check.due("apart by " + start, Check.loaded(Worlds.apart(start, 999, 999)).reason(0, 1), want);
            Check.due("the other way round", Check.loaded(Worlds.apart(start, 999, 999)).reason(1, 0), want);
        }

        Sentences.test(25, "4 if the one would become late, 5 if the other one would");
        Check.due("the one by a minute", Check.loaded(Worlds.apart(30, 119, 120)).reason(0, 1), 4);
        Check.due("the other one by a minute", Check.loaded(Worlds.apart(30, 119, 120)).reason(1, 0), 5);
        Check.due("to the minute", Check.loaded(Worlds.apart(30, 120, 120)).reason(0, 1), 0);
        Check.due("late already", Check.loaded(Worlds.apart(30, 89, 119)).reason(0, 1), 0);

        Sentences.test(25, "(the first of these that holds).");
        Check.due("no RUN, and a difference of 999", x.reason(2, 0), 2);
        Check.due("a difference of 121, and late", Check.loaded(Worlds.apart(121, 90, 999)).reason(0, 1), 3);
        // at 40 the second road takes 90 minutes: truck 0 waits for 1, truck 1 goes as slowly as 0
        TruckPlatoons both = Check.loaded(Worlds.apart(30, 160, 120));
        both.setSpeed(0, 1, 40);
        Check.due("both late", both.reason(0, 1), 4);
        Check.due("both late, the other way round", both.reason(1, 0), 4);

        Sentences.test(25, NO_PAIR);
        noPair("reason", fork(), (y, truck, other) -> y.reason(truck, other));
    }

    private interface PairCall {
        int answer(TruckPlatoons x, int truck, int other);
    }

    private static void noPair(String call, TruckPlatoons x, PairCall made) {
        Check.dueOutside(call + "(.., 2)", INDEX, 0, 3, truck -> made.answer(x, truck, 2 - truck / 2 * 2));
        Check.dueOutside(call + "(2, ..)", INDEX, 0, 3, other -> made.answer(x, 2 - other / 2 * 2, other));
        Check.dueIndex(call + "(4, 4)", () -> made.answer(x, 4, 4));
        Check.dueIndex(call + "(-1, -1)", () -> made.answer(x, -1, -1));
    }

    private static void merge() {
        Sentences.test(26, "Returns the number of places of the RUN;");
        Check.due("two places", Check.loaded(Worlds.apart(30, 999, 999)).merge(1, 0), 2);
        Check.due("one place", fork().merge(0, 3), 1);
        String ten = "truck 0 999 5 0 1 0 1 0 1 0 1 0 1;";
        Check.due("ten places", Check.loaded("road 0 1 9 50;road 1 0 9 50;" + ten + ten).merge(0, 1), 10);

        Sentences.test(26, "REFUSED if reason() is not 0.");
        int[] starts = {0, 121, 30, 30};
        int[] deadlines = {999, 999, 119, 999};
        int[] reasons = {1, 3, 4, 5};
        for (int at = 0; at < 4; at++) {
            TruckPlatoons x = Check.loaded(Worlds.apart(starts[at], deadlines[at], 120));
            int other = at == 0 ? 0 : 1;
            if (reasons[at] == 5) {
                x.setSpeed(0, 1, 79);
            }
            Check.due("reason()", x.reason(0, other), reasons[at]);
            String before = Worlds.state(x);
            Check.due("merge() for reason " + reasons[at], x.merge(0, other), -3);
            Check.dueText("what there is then", Worlds.state(x), before);
        }
        TruckPlatoons apart = Check.loaded(ROAD + NEXT + "truck 0 999 5 0;truck 0 999 5 1;");
        Check.due("merge() for reason 2", apart.merge(0, 1), -3);
        Check.due("edits then", apart.count(8), 0);

        Sentences.test(26, NO_PAIR);
        noPair("merge", fork(), (y, truck, other) -> y.merge(truck, other));
    }

    private static void gain() {
        Sentences.test(27, "Returns the GAIN (may be negative).");
        TruckPlatoons x = Check.loaded(ROAD + NEXT + "truck 0 999 10 0 1;truck 0 999 10 0 1;truck 30 999 10 0;");
        Check.due("negative", x.gain(0, 2), -2790);
        Check.due("negative, the other way round", x.gain(2, 0), -2790);
        Check.due("0", x.gain(0, 1), 0);
        Check.due("positive", Check.loaded(Worlds.apart(30, 999, 999)).gain(0, 1), 5580);
        Check.due("edits", x.count(8), 0);

        Sentences.test(27, NO_PAIR);
        noPair("gain", fork(), (y, truck, other) -> y.gain(truck, other));

        Sentences.test(27, "Throws IllegalStateException if reason() is not 0");
        Check.dueState("the same", () -> x.gain(2, 2));
        Check.dueState("no RUN", () -> Check.loaded(ROAD + NEXT + "truck 0 9 5 0;truck 0 9 5 1;").gain(0, 1));
        Check.dueState("121 minutes", () -> Check.loaded(Worlds.apart(121, 999, 999)).gain(0, 1));
        Check.dueState("the one late", () -> Check.loaded(Worlds.apart(30, 119, 120)).gain(0, 1));
        Check.dueState("the other one late", () -> Check.loaded(Worlds.apart(30, 119, 120)).gain(1, 0));
        Check.dueNotThrown("120 minutes", () -> Check.loaded(Worlds.apart(120, 999, 999)).gain(0, 1));
    }

    private static void bestPartner() {
        String[] gaps = {"30", "20", "10"};
        Sentences.test(28, "Finds the truck with which merging has the greatest GAIN.");
        StringBuilder text = new StringBuilder(ROAD + "truck 0 999 10 0;");
        for (int at = 0; at < 3; at++) {
            text.append("truck ").append(10 * at + 10).append(" 999 ").append(gaps[at]).append(" 0;");
        }
        Check.due("the last one", Check.loaded(text.toString()).bestPartner(0), 3);

        Sentences.test(28, "Returns the other truck, of several the lowest one;");
        String alike = ROAD + "truck 0 999 10 0;truck 10 999 10 0;truck 20 999 10 0;";
        Check.dueRow("three alike", 0, Check.loaded(alike)::bestPartner, 1, 0, 0);

        Sentences.test(28, "NONE if none has a GAIN above 0.");
        Check.due("one truck", Check.loaded(ROAD + "truck 0 999 10 0;").bestPartner(0), -1);
        Check.due("GAIN 0", Check.loaded(ROAD + "truck 0 999 50 0;truck 9 999 50 0;").bestPartner(0), -1);
        Check.due("together already", Check.loaded(Worlds.apart(0, 999, 999)).bestPartner(0), -1);
        Check.due("a negative GAIN", Check.loaded(ROAD + NEXT
                + "truck 0 999 10 0 1;truck 0 999 10 0 1;truck 30 999 10 0;").bestPartner(0), -1);
        Check.due("not possible", Check.loaded(Worlds.apart(30, 119, 999)).bestPartner(0), -1);
        // 310 * 6 / 1000 is 1 and a rest; the first one saves 0
        TruckPlatoons one = Check.loaded("road 0 1 1 80;truck 0 999 48 0;truck 9 999 48 0;");
        Check.due("GAIN", one.gain(0, 1), 1);
        Check.due("GAIN 1", one.bestPartner(0), 1);

        Sentences.test(28, NO_TRUCK);
        TruckPlatoons fork = fork();
        Check.dueOutside("bestPartner()", INDEX, 0, 3, fork::bestPartner);
    }

    private static void mergeAll() {
        Sentences.test(29, "as long as the greatest GAIN is above 0,");
        Check.due("without trucks", new TruckPlatoons().mergeAll(), 0);
        Check.due("one truck", Check.loaded(ROAD + "truck 0 999 10 0;").mergeAll(), 0);
        TruckPlatoons zero = Check.loaded(ROAD + "truck 0 999 50 0;truck 9 999 50 0;");
        Check.due("GAIN 0", zero.mergeAll(), 0);
        Check.due("WAIT then", zero.place(0, 0, 1), 0);
        TruckPlatoons one = Check.loaded("road 0 1 1 80;truck 0 999 48 0;truck 9 999 48 0;");
        Check.due("GAIN 1", one.mergeAll(), 1);
        Check.due("WAIT then", one.place(0, 0, 1), 9);
        Check.due("again", one.mergeAll(), 0);

        Sentences.test(29, "at most 30 times.");
        TruckPlatoons many = Check.loaded(Worlds.MANY);
        Check.due("mergeAll()", many.mergeAll(), 30);
        Check.due("mergeAll() of the rest", many.mergeAll(), 3);
        Check.due("mergeAll() of nothing", many.mergeAll(), 0);

        Sentences.test(29, "All of it is one edit.");
        Check.due("edits", many.count(8), 3);
        Check.due("undo() of nothing", many.undo(), 2);
        Check.due("undo() of three", many.undo(), 1);
        Check.due("undo() of thirty", many.undo(), 0);
        Check.dueText("what there is then", Worlds.state(many), Worlds.state(Check.loaded(Worlds.MANY)));
    }

    private static void mergeAllOrder() {
        Sentences.test(29,
                "Merges the two trucks a < b with the greatest GAIN (of several the least a, then the least b),");
        // all pairs have the GAIN 2790, but for 0 and 3, which are too far apart
        TruckPlatoons x = Check.loaded(ROAD + "truck 0 999 10 0;truck 60 999 10 0;truck 120 999 10 0;"
                + "truck 180 999 10 0;");
        Check.due("mergeAll()", x.mergeAll(), 2);
        Check.dueRow("WAIT", 0, truck -> x.place(truck, 0, 1), 60, 0, 60, 0);
        // 0 and 1, as well as 1 and 2; then 2 could only take 1 away from 0
        TruckPlatoons three = Check.loaded(ROAD + "truck 0 999 10 0;truck 90 999 10 0;truck 180 999 10 0;");
        Check.due("mergeAll() of three", three.mergeAll(), 1);
        Check.dueRow("WAIT of three", 0, truck -> three.place(truck, 0, 1), 90, 0, 0);
        // 1 and 2 drive on together and save on two roads
        TruckPlatoons y = Check.loaded(ROAD + NEXT + "truck 0 999 10 0;truck 10 999 10 0 1;truck 20 999 10 0 1;");
        Check.due("mergeAll() with the greatest GAIN first", y.mergeAll(), 2);
        Check.dueRow("WAIT", 0, truck -> y.place(truck, 0, 1), 20, 10, 0);
    }

    /** What there is now is what a script would have made of FORK, but for the edits. */
    private static void dueAsPlayed(TruckPlatoons x, String script) {
        TruckPlatoons other = fork();
        Check.play(other, script);
        Check.due("digest()", x.digest(), other.digest());
        for (int what : new int[] {3, 4, 5, 6, 7, 9}) {
            Check.due("count(" + what + ")", x.count(what), other.count(what));
        }
    }

    private static TruckPlatoons inHaste(int deadline) {
        return Check.loaded("road 0 1 60 120;road 1 2 60 80;road 2 3 60 120;truck 0 " + deadline + " 10 0 1 2;");
    }

    private static void hurry() {
        // each road takes 45 minutes at 80, and 30 at 120
        Sentences.test(30,
                "Lets a truck hurry: from the place 0 on, as long as it is late, the SPEED of a place becomes LIMIT.");
        int[] deadlines = {135, 134, 120, 119, 105, 104, 0};
        int[][] speeds = {{80, 80}, {120, 80}, {120, 80}, {120, 120}, {120, 120}, {120, 120}, {120, 120}};
        for (int at = 0; at < deadlines.length; at++) {
            TruckPlatoons x = inHaste(deadlines[at]);
            int changed = x.hurry(0);
            Check.due("SPEED at 0 for " + deadlines[at], x.place(0, 0, 2), speeds[at][0]);
            Check.due("SPEED at 1 for " + deadlines[at], x.place(0, 1, 2), 80);
            Check.due("SPEED at 2 for " + deadlines[at], x.place(0, 2, 2), speeds[at][1]);
            Check.due("changed for " + deadlines[at], changed, (speeds[at][0] + speeds[at][1] - 160) / 40);
        }

        Sentences.test(30, "Returns how many SPEEDs became other ones.");
        TruckPlatoons x = inHaste(0);
        x.setSpeed(0, 1, 79);
        Check.due("hurry() with all at another SPEED", x.hurry(0), 3);
        Check.due("hurry() again", x.hurry(0), 0);
        TruckPlatoons hurried = fork();
        Check.due("hurry() out of a platoon", hurried.hurry(2), 2);
        dueAsPlayed(hurried, "speed 2 0 100;speed 2 1 90;");

        Sentences.test(30, NO_TRUCK);
        TruckPlatoons fork = fork();
        Check.dueOutside("hurry()", INDEX, 0, 3, fork::hurry);
    }

    private static TruckPlatoons atEase(int deadline) {
        return Check.loaded("road 0 1 60 120;road 1 2 60 120;truck 0 " + deadline + " 10 0 1;");
    }

    private static void relax() {
        // at 40 a road takes 90 minutes, at 41 it takes 88, at 78 it takes 47, at 79 it takes 46, at 80 it takes 45
        Sentences.test(31,
                "from the last place to the place 0, the SPEED becomes the least one, from 40 up to the present one,");
        int[] deadlines = {180, 179, 136, 135, 134, 133, 91, 90};
        int[] first = {40, 41, 79, 80, 79, 80, 80, 80};
        int[] last = {40, 40, 40, 40, 41, 41, 79, 80};
        for (int at = 0; at < deadlines.length; at++) {
            TruckPlatoons x = atEase(deadlines[at]);
            x.relax(0);
            Check.due("SPEED at 0 for " + deadlines[at], x.place(0, 0, 2), first[at]);
            Check.due("SPEED at 1 for " + deadlines[at], x.place(0, 1, 2), last[at]);
        }
        TruckPlatoons slow = atEase(9999);
        slow.setSpeed(0, 0, 40);
        Check.due("the least one already", slow.relax(0), 1);

        Sentences.test(31, "with which the truck is not late (with all others as they are then);");
        Check.due("to the minute", arrival(135), 135);
        Check.due("two minutes less", arrival(133), 133);
        TruckPlatoons waiting = atEase(179);
        waiting.setWait(0, 0, 44);
        waiting.relax(0);
        Check.due("with a WAIT, SPEED at 1", waiting.place(0, 1, 2), 40);
        Check.due("with a WAIT, SPEED at 0", waiting.place(0, 0, 2), 80);

        Sentences.test(31, "if there is none, it stays.");
        TruckPlatoons late = atEase(89);
        Check.due("relax() of a late one", late.relax(0), 0);
        Check.due("SPEED at 0", late.place(0, 0, 2), 80);
        Check.due("SPEED at 1", late.place(0, 1, 2), 80);

        Sentences.test(31, "Returns how many SPEEDs became other ones.");
        int[] changed = {0, 1, 1, 2};
        int[] for0 = {90, 91, 135, 136};
        for (int at = 0; at < changed.length; at++) {
            Check.due("relax() for " + for0[at], atEase(for0[at]).relax(0), changed[at]);
        }
        TruckPlatoons relaxed = fork();
        Check.due("relax() out of a platoon", relaxed.relax(1), 2);
        dueAsPlayed(relaxed, "speed 1 0 40;speed 1 1 40;");

        Sentences.test(31, NO_TRUCK);
        TruckPlatoons fork = fork();
        Check.dueOutside("relax()", INDEX, 0, 3, fork::relax);
    }

    private static int arrival(int deadline) {
        TruckPlatoons x = atEase(deadline);
        x.relax(0);
        return x.truck(0, 4);
    }

    private static void play() {
        Sentences.test(43, "A command fails if its method throws an exception or returns an error code;");
        String[] failing = {"wait 2 0 0", "wait 0 2 0", "speed 2 0 40", "speed 0 2 40", "speed 0 0 81", "start 2 0",
            "merge 0 2", "merge 2 0", "merge 1 1", "hurry 2", "relax 2"};
        String[] good = {"wait 1 1 0", "wait 1 1 120", "speed 1 1 40", "speed 1 1 80", "start 1 2000", "merge 0 1",
            "merge 1 0", "hurry 1", "relax 1", "all"};
        for (String command : failing) {
            Check.due(command, Check.play(Check.loaded(Worlds.apart(9, 999, 999)), command + ";"), 0);
        }
        for (String command : good) {
            Check.due(command, Check.play(Check.loaded(Worlds.apart(9, 999, 999)), command + ";"), 1);
        }

        Sentences.test(43, "then the script ends, and what was done stays done.");
        for (String command : failing) {
            TruckPlatoons x = Check.loaded(Worlds.apart(9, 999, 999));
            Check.play(x, "start 0 7;" + command + ";start 0 8;");
            Check.due("START behind " + command, x.truck(0, 0), 7);
            Check.due("edits behind " + command, x.count(8), 1);
        }

        Sentences.test(43, "(A command without an effect is done, too.)");
        TruckPlatoons x = Check.loaded(Worlds.apart(0, 90, 90));
        Check.due("seven of them",
                Check.play(x, "wait 0 0 0;speed 0 0 80;start 0 0;merge 0 1;hurry 0;relax 0;all;"), 7);
        Check.due("edits", x.count(8), 7);
    }

    private static void playErrors() {
        Sentences.test(43, "Returns the number of commands that were done, the one that failed not included;");
        TruckPlatoons x = fork();
        Check.due("nothing", x.play(), 0);
        Check.due("the first one fails", Check.play(x, "hurry 4;all;"), 0);
        Check.due("the second one fails", Check.play(x, "all;hurry 4;all;"), 1);
        Check.due("the last of 30 fails", Check.play(x, "all;".repeat(29) + "hurry 4;"), 29);
        Check.due("none of 30 fails", Check.play(x, "all;".repeat(30)), 30);

        Sentences.test(43, "TEXT_ERROR if the text has an error (then only the buffer and the error change).");
        TruckPlatoons y = fork();
        y.setWait(0, 0, 9);
        y.write(0);
        y.saveSnapshot(1);
        String before = Worlds.state(y);
        // all of it is good but for the last sign
        Check.due("play()", Check.play(y, "wait 0 0 1;speed 0 0 50;start 0 1;merge 0 1;hurry 0;relax 0;all;-"), -2);
        Check.dueText("what there is", Worlds.state(y), before);
        Check.due("errorCode()", y.errorCode(), 1);
        Check.due("errorPosition()", y.errorPosition(), 64);
        Check.due("truncateInput(1)", y.truncateInput(1), -1);
        Check.due("undo()", y.undo(), 0);
        Check.due("restoreSnapshot(1)", y.restoreSnapshot(1), true);
    }

    private static void undo() {
        TruckPlatoons x = fork();
        Sentences.test(44, "Undoes the latest edit.");
        x.setStart(0, 1);
        x.setStart(0, 2);
        x.undo();
        Check.due("START", x.truck(0, 0), 1);
        x.setStart(0, 3);
        x.undo();
        Check.due("START behind another one", x.truck(0, 0), 1);

        Sentences.test(44, "Returns the number of edits that can still be undone;");
        Check.due("undo() of the last one", x.undo(), 0);
        for (int edit = 0; edit < 20; edit++) {
            x.setStart(0, 100 + edit);
        }
        Check.due("undo() of fifteen", x.undo(), 14);
        x.setStart(0, 200);
        Check.due("undo() of fifteen again", x.undo(), 14);

        Sentences.test(44, "NONE if there is none.");
        for (int left = 13; left >= 0; left--) {
            Check.due("undo()", x.undo(), left);
        }
        String before = Worlds.state(x);
        Check.due("undo() of none", x.undo(), -1);
        Check.due("undo() of none again", x.undo(), -1);
        Check.dueText("what there is", Worlds.state(x), before);
        Check.due("undo() of a new object", new TruckPlatoons().undo(), -1);
        x.setStart(0, 300);
        Check.due("undo() of another one", x.undo(), 0);
    }

    private static void outside(String call, IntUnaryOperator made) {
        for (int slot : new int[] {-1, 2, Integer.MIN_VALUE, Integer.MAX_VALUE}) {
            Check.due(call + " of " + slot, made.applyAsInt(slot), 0);
        }
    }

    private static void saveSnapshot() {
        TruckPlatoons x = fork();
        Sentences.test(46, "slot: 0 or 1");
        Check.due("saveSnapshot(0)", x.saveSnapshot(0), true);
        Check.due("saveSnapshot(1)", x.saveSnapshot(1), true);
        Check.due("saveSnapshot(0) of a new object", new TruckPlatoons().saveSnapshot(0), true);

        Sentences.test(46, "it replaces an earlier one in the same place.");
        x.setStart(0, 7);
        x.saveSnapshot(1);
        x.setStart(0, 8);
        x.restoreSnapshot(0);
        Check.due("START of 0", x.truck(0, 0), 0);
        x.restoreSnapshot(1);
        Check.due("START of 1", x.truck(0, 0), 7);
        x.saveSnapshot(0);
        x.setStart(0, 9);
        x.restoreSnapshot(0);
        Check.due("START of 0 then", x.truck(0, 0), 7);

        Sentences.test(46, "Returns true; false if slot is out of range.");
        outside("saveSnapshot()", slot -> x.saveSnapshot(slot) ? 1 : 0);
        TruckPlatoons y = fork();
        outside("saveSnapshot()", slot -> y.saveSnapshot(slot) ? 1 : 0);
        Check.due("restoreSnapshot(0)", y.restoreSnapshot(0), false);
        Check.due("restoreSnapshot(1)", y.restoreSnapshot(1), false);
    }

    private static void restoreSnapshot() {
        TruckPlatoons x = fork();
        x.saveSnapshot(0);
        Sentences.test(47, "Restores a snapshot, which stays;");
        for (int times = 0; times < 3; times++) {
            x.setStart(0, 7);
            x.setWait(0, 0, 8);
            x.setSpeed(0, 1, 50);
            Check.due("restoreSnapshot(0)", x.restoreSnapshot(0), true);
            Check.dueText("what there is", Worlds.state(x), Worlds.state(fork()));
        }

        Sentences.test(47, "nothing can be undone then.");
        x.setStart(0, 7);
        x.restoreSnapshot(0);
        Check.due("edits", x.count(8), 0);
        Check.due("undo()", x.undo(), -1);
        x.setStart(0, 9);
        Check.due("undo() of a later edit", x.undo(), 0);
        Check.due("START then", x.truck(0, 0), 0);

        Sentences.test(47, "slot: 0 or 1");
        x.setStart(0, 5);
        x.saveSnapshot(1);
        Check.due("restoreSnapshot(0)", x.restoreSnapshot(0), true);
        Check.due("START of 0", x.truck(0, 0), 0);
        Check.due("restoreSnapshot(1)", x.restoreSnapshot(1), true);
        Check.due("START of 1", x.truck(0, 0), 5);

        Sentences.test(47, "Returns true; false if slot is out of range or has no snapshot.");
        x.setStart(0, 6);
        outside("restoreSnapshot()", slot -> x.restoreSnapshot(slot) ? 1 : 0);
        Check.due("edits", x.count(8), 1);
        Check.due("START", x.truck(0, 0), 6);
        TruckPlatoons y = fork();
        y.saveSnapshot(1);
        y.setStart(0, 6);
        Check.due("restoreSnapshot(0) without one", y.restoreSnapshot(0), false);
        Check.due("edits then", y.count(8), 1);
        Check.due("restoreSnapshot(0) of a new object", new TruckPlatoons().restoreSnapshot(0), false);
    }
}
