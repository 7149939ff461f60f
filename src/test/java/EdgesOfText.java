import java.util.Arrays;

/** A test for each sentence with an edge about roads, trucks, the input and errors, and those of promises 1 to 6. */
final class EdgesOfText {
    private static final String ROAD = "road 0 1 9 50;";
    private static final String BACK = "road 1 0 9 50;";
    private static final String TRUCK = "truck 0 0 5 0;";
    private static final String TEN = "truck 0 0 5 0 1 0 1 0 1 0 1 0 1";

    private EdgesOfText() {
    }

    static void all() {
        calls();
        roads();
        trucks();
        choices();
        buffer();
        tokens();
        statements();
        scripts();
        errors();
        syntax();
        range();
        road();
        limit();
        replacing();
        newObject();
        appending();
        truncating();
        loading();
        latestError();
    }

    private static void calls() {
        Sentences.test(0, "An object is used for at most 512 calls after it has been made; "
                + "what later calls answer is free.");
        TruckPlatoons x = Check.loaded(Worlds.FULL);
        int made = (Worlds.FULL.length() + 19) / 20 + 3;
        for (int call = made; call < 500; call++) {
            Check.due("call " + call, x.setStart(0, call), call == made ? 0 : call - 1);
        }
        for (int call = 500; call < 510; call++) {
            Check.due("call " + call, x.undo(), 514 - call);
        }
        Check.due("call 511", x.truck(0, 0), 489);
        Check.due("call 512", x.merge(0, 0), -3);
    }

    private static void roads() {
        Sentences.test(0, "ROADS, at most 30,");
        TruckPlatoons most = Check.loaded(Worlds.FULL);
        Check.due("30 roads", most.count(0), 30);
        Check.due("roads of both", most.common(0, 11), 2);
        Check.due("bestRoad()", most.bestRoad(), 28);
        Check.due("quickest() by the last road", most.quickest(1, 0), 11);
        Check.dueRow("road(29)", 2, what -> most.road(29, what), 9, 50, 10, 12);
        Check.dueLoadError(ROAD.repeat(31), 4, 420);

        Sentences.test(0, "are numbered from 0; each leads from a node");
        TruckPlatoons full = Check.loaded("road 0 1 7 50;" + ROAD.repeat(28) + "road 0 1 8 50;");
        Check.due("LENGTH of the first road", full.road(0, 2), 7);
        Check.due("LENGTH of the last road", full.road(29, 2), 8);
        Check.dueIndex("road(30, 2)", () -> full.road(30, 2));
        Check.dueIndex("road(-1, 2)", () -> full.road(-1, 2));

        Sentences.test(0, "(nodes 0 to 19)");
        TruckPlatoons ends = Check.loaded("road 0 19 9 50;road 19 0 9 50;");
        Check.dueRow("nodes of road 0", 0, what -> ends.road(0, what), 0, 19);
        Check.dueRow("nodes of road 1", 0, what -> ends.road(1, what), 19, 0);
        Check.dueLoadError("road 20 1 9 50;", 2, 5);
        Check.dueLoadError("road 1 20 9 50;", 2, 7);
        Check.dueLoadError("road -1 0 9 50;", 1, 5);

        Sentences.test(0, "leads from a node to another one");
        Check.dueLoadError("road 0 0 9 50;", 3, 7);
        Check.dueLoadError("road 19 19 9 50;", 3, 8);
        Check.due("its neighbour", Check.loaded("road 19 18 9 50;").count(0), 1);

        Sentences.test(0, "a LENGTH (1 to 300 kilometers)");
        Check.due("LENGTH 1", Check.loaded("road 0 1 1 50;").road(0, 2), 1);
        Check.due("LENGTH 300", Check.loaded("road 0 1 300 50;").road(0, 2), 300);
        Check.dueLoadError("road 0 1 0 50;", 2, 9);
        Check.dueLoadError("road 0 1 301 50;", 2, 9);

        Sentences.test(0, "a LIMIT (40 to 120 kilometers per hour)");
        Check.due("LIMIT 40", Check.loaded("road 0 1 9 40;").road(0, 3), 40);
        Check.due("LIMIT 120", Check.loaded("road 0 1 9 120;").road(0, 3), 120);
        Check.dueLoadError("road 0 1 9 39;", 2, 11);
        Check.dueLoadError("road 0 1 9 121;", 2, 11);
    }

    private static void trucks() {
        Sentences.test(0, "TRUCKS, at most 12,");
        TruckPlatoons most = Check.loaded(Worlds.FULL);
        Check.due("12 trucks", most.count(1), 12);
        Check.due("alone()", most.alone(), 1 << 11);
        Check.due("what the first one saves", most.truck(0, 7), 570);
        Check.due("what the last one together saves", most.truck(10, 7), 2280);
        Check.due("bestPartner(0)", most.bestPartner(0), 11);
        Check.due("bestPartner(11)", most.bestPartner(11), 0);
        Check.due("mergeAll()", most.mergeAll(), 1);
        Check.due("WAIT then", most.place(0, 0, 1), 10);
        // ten times 11 minutes behind 10 are 120, far ahead of 999: at 40 a road takes 14 minutes
        Check.due("relax() of the last one", most.relax(11), 10);
        Check.due("its ARRIVAL", most.truck(11, 4), 150);
        Check.due("hurry() of the last one", most.hurry(11), 0);
        Check.dueLoadError(ROAD + TRUCK.repeat(13), 4, 182);

        Sentences.test(0, "are numbered from 0; each has a START");
        TruckPlatoons full = Check.loaded(ROAD + "truck 1 0 5 0;" + TRUCK.repeat(10) + "truck 2 0 5 0;");
        Check.due("START of the first truck", full.truck(0, 0), 1);
        Check.due("START of the last truck", full.truck(11, 0), 2);
        Check.dueIndex("truck(12, 0)", () -> full.truck(12, 0));
        Check.dueIndex("truck(-1, 0)", () -> full.truck(-1, 0));

        Sentences.test(0, "a START (0 to 2000)");
        Check.due("START 0", Check.loaded(ROAD + "truck 0 0 5 0;").truck(0, 0), 0);
        Check.due("START 2000", Check.loaded(ROAD + "truck 2000 0 5 0;").truck(0, 0), 2000);
        Check.dueLoadError(ROAD + "truck 2001 0 5 0;", 2, 20);

        Sentences.test(0, "a DEADLINE (0 to 10000; both in minutes)");
        Check.due("DEADLINE 0", Check.loaded(ROAD + "truck 0 0 5 0;").truck(0, 1), 0);
        Check.due("DEADLINE 10000", Check.loaded(ROAD + "truck 0 10000 5 0;").truck(0, 1), 10000);
        Check.dueLoadError(ROAD + "truck 0 10001 5 0;", 2, 22);

        Sentences.test(0, "a GAP (5 to 60 meters)");
        Check.due("GAP 5", Check.loaded(ROAD + "truck 0 0 5 0;").truck(0, 2), 5);
        Check.due("GAP 60", Check.loaded(ROAD + "truck 0 0 60 0;").truck(0, 2), 60);
        Check.dueLoadError(ROAD + "truck 0 0 4 0;", 2, 24);
        Check.dueLoadError(ROAD + "truck 0 0 61 0;", 2, 24);

        Sentences.test(0, "a ROUTE of 1 to 10 roads");
        Check.due("a ROUTE of 1", Check.loaded(ROAD + TRUCK).truck(0, 3), 1);
        Check.due("a ROUTE of 10", Check.loaded(ROAD + BACK + TEN + ";").truck(0, 3), 10);
        Check.dueLoadError(ROAD + "truck 0 0 5;", 1, 25);
        Check.dueLoadError(ROAD + BACK + TEN + " 0;", 4, 60);

        Sentences.test(0, "each of which begins where the one before ends");
        String three = ROAD + "road 1 2 9 50;road 2 0 9 50;truck 0 0 5 ";
        Check.due("0 1 2 0", Check.loaded(three + "0 1 2 0;").truck(0, 3), 4);
        Check.due("a ROUTE that begins at any node", Check.loaded(three + "2 0;").truck(0, 3), 2);
        Check.dueLoadError(three + "0 2;", 3, 56);
        Check.dueLoadError(three + "0 0;", 3, 56);
        Check.dueLoadError(three + "1 0;", 3, 56);

        Sentences.test(0, "The places of the route are numbered from 0.");
        TruckPlatoons ten = Check.loaded(ROAD + BACK + TEN + ";");
        Check.dueRow("roads of the ROUTE", 0, place -> ten.place(0, place, 0), 0, 1, 0, 1, 0, 1, 0, 1, 0, 1);
        Check.dueIndex("place(0, 10, 0)", () -> ten.place(0, 10, 0));
        Check.dueIndex("place(0, -1, 0)", () -> ten.place(0, -1, 0));
    }

    private static void choices() {
        Sentences.test(0, "a WAIT (0 to 120 minutes, 0 at first)");
        TruckPlatoons x = Check.loaded(ROAD + BACK + "truck 0 0 5 0 1;");
        Check.dueRow("first WAIT", 0, place -> x.place(0, place, 1), 0, 0);
        Check.dueOutside("setWait", IllegalArgumentException.class, 0, 120, minutes -> x.setWait(0, 0, minutes));
        Check.due("WAIT 120", x.place(0, 0, 1), 120);

        Sentences.test(0, "a SPEED (40 to the LIMIT of the road;");
        TruckPlatoons y = Check.loaded("road 0 1 9 91;road 1 0 9 40;truck 0 0 5 0 1;");
        Check.dueOutside("setSpeed to 91", IllegalArgumentException.class, 40, 91, speed -> y.setSpeed(0, 0, speed));
        Check.due("SPEED 91", y.place(0, 0, 2), 91);
        Check.dueOutside("setSpeed to 40", IllegalArgumentException.class, 40, 40, speed -> y.setSpeed(0, 1, speed));

        Sentences.test(0, "at first the lesser one of 80 and LIMIT)");
        int[] limits = {40, 79, 80, 81, 120};
        int[] speeds = {40, 79, 80, 80, 80};
        for (int at = 0; at < limits.length; at++) {
            TruckPlatoons one = Check.loaded("road 0 1 9 " + limits[at] + ";" + TRUCK);
            Check.due("first SPEED with the LIMIT " + limits[at], one.place(0, 0, 2), speeds[at]);
        }
    }

    private static void buffer() {
        Sentences.test(0, "Text is collected in an input buffer of at most 1500 bytes;");
        TruckPlatoons x = new TruckPlatoons();
        for (int appended = 20; appended <= 1500; appended += 20) {
            Check.due("append", x.appendInput(0x20202020, 0x20202020, 0x20202020, 0x20202020, 0x20202020), appended);
        }
        Check.due("append to 1500 bytes", x.appendInput(0, 0, 0, 0, 0), -1);
        Check.due("load() of 1500 spaces", x.load(), 0);
        Check.due("its error", x.errorCode(), 0);
        Check.due("roads at the end of 1500 bytes", Check.loaded(" ".repeat(1486) + ROAD).count(0), 1);
        Check.dueLoadError(" ".repeat(1486) + "road 0 1 9 50x", 1, 1499);

        Sentences.test(0, "load() and play() read it and empty it, also on an error.");
        boolean[] loads = {true, true, false, false};
        String[] texts = {ROAD, "road", "all;", "all"};
        for (int at = 0; at < texts.length; at++) {
            TruckPlatoons y = new TruckPlatoons();
            Check.type(y, texts[at]);
            Check.due("an error in " + texts[at], (loads[at] ? y.load() : y.play()) == -2, at % 2 == 1);
            Check.due("truncateInput(1) behind " + texts[at], y.truncateInput(1), -1);
            Check.due("append behind " + texts[at], y.appendInput(0, 0, 0, 0, 0), 20);
        }
    }

    private static void tokens() {
        Sentences.test(0, "words (longest runs of the letters a to z");
        Check.due("all the letters of words", Check.loaded(ROAD + TRUCK).count(1), 1);
        Check.dueLoadError("roadroad 0 1 9 50;", 1, 0);
        Check.dueLoadError("roada 0 1 9 50;", 1, 0);
        Check.dueLoadError("zroad 0 1 9 50;", 1, 0);
        Check.dueLoadError("roadz 0 1 9 50;", 1, 0);
        for (String sign : new String[] {"`", "{", "@", "[", "A", "Z", "_", "\u00e1"}) {
            Check.dueLoadError("road" + sign + "0 1 9 50;", 1, 4);
        }

        Sentences.test(0, "at most 8 letters)");
        Check.dueLoadError("  " + "a".repeat(8), 1, 2);
        Check.dueLoadError("  " + "a".repeat(9), 1, 2);
        Check.dueLoadError("roadroadroad", 1, 0);
        Check.duePlayError("all; " + "all".repeat(3) + ";", 1, 5);

        Sentences.test(0, "numbers (longest runs of digits");
        Check.due("LENGTH 123", Check.loaded("road 0 1 123 50;").road(0, 2), 123);
        Check.due("all digits", Check.loaded("road 0 1 9 50;truck 1678 2345 9 0;").truck(0, 0), 1678);
        Check.dueLoadError("road 01 9 50;", 1, 12);
        Check.dueLoadError("road 0/1 9 50;", 1, 6);
        Check.dueLoadError("road 0:1 9 50;", 1, 6);

        Sentences.test(0, "at most 5 digits)");
        Check.due("00009", Check.loaded("road 0 1 00009 00050;").road(0, 2), 9);
        Check.due("10000", Check.loaded(ROAD + "truck 0 10000 5 00000;").truck(0, 1), 10000);
        Check.dueLoadError("road 0 1 000009 50;", 1, 9);
        Check.dueLoadError("road 0 1 99999 50;", 2, 9);
        Check.dueLoadError("road 0 1 100000 50;", 1, 9);
        Check.dueLoadError("road 0 1 4294967305 50;", 1, 9);

        Sentences.test(0, "and the symbol ; each.");
        Check.due("no spaces", Check.loaded("road0 1 9 50;truck0 0 5 0;").count(1), 1);
        Check.dueLoadError(ROAD + ";", 1, 14);
        Check.dueLoadError(";", 1, 0);
        Check.duePlayError("all;;", 1, 4);
        Check.dueLoadError("road; 0 1 9 50;", 1, 4);

        Sentences.test(0, "Spaces and line feeds (bytes 32 and 10) separate tokens and have no other meaning.");
        Check.due("many of them", Check.loaded("\n road \n\n 0 1\n9  50 ;\n \n").road(0, 3), 50);
        Check.dueLoadError("ro ad 0 1 9 50;", 1, 0);
        Check.dueLoadError("road 0 1 9 5 0;", 2, 11);
        Check.dueLoadError("road 0 1 9 5\n0;", 2, 11);
        for (int sign = 0; sign < 256; sign++) {
            otherSign((char) sign);
        }
    }

    /** Between 50 and the symbol only two signs mean nothing; a digit makes 500 or more of it. */
    private static void otherSign(char sign) {
        String text = "road 0 1 9 50" + sign + ";";
        if (sign == 32 || sign == 10) {
            Check.due("byte " + (int) sign, Check.loaded(text).count(0), 1);
        } else if (sign >= '0' && sign <= '9') {
            Check.dueLoadError(text, 2, 11);
        } else {
            Check.dueLoadError(text, 1, sign == ';' ? 14 : 13);
        }
    }

    private static void statements() {
        Sentences.test(0, "The text of load() is a sequence of statements, perhaps none,");
        TruckPlatoons x = new TruckPlatoons();
        Check.due("load() of nothing", x.load(), 0);
        Check.due("its error", x.errorCode(), 0);
        Check.due("load() of separators", Check.loaded(" \n ").count(0), 0);
        Check.due("one statement", Check.loaded(ROAD).count(0), 1);

        Sentences.test(0, "in any order:");
        TruckPlatoons mixed = Check.loaded(ROAD + TRUCK + BACK + "truck 3 0 5 1;" + "road 5 6 9 50;");
        Check.due("roads", mixed.count(0), 3);
        Check.due("START of truck 1", mixed.truck(1, 0), 3);

        Sentences.test(0, "road FROM TO LENGTH LIMIT ;");
        Check.dueRow("road(0)", 0, what -> Check.loaded("road 2 3 4 50;").road(0, what), 2, 3, 4, 50);
        Check.dueLoadError("road 2 3 4;", 1, 10);
        Check.dueLoadError("road 2 3 4 50 6;", 1, 14);

        Sentences.test(0, "truck START DEADLINE GAP ROAD { ROAD } ;");
        Check.dueRow("truck(0)", 0, what -> Check.loaded(ROAD + "truck 1 2 6 0;").truck(0, what), 1, 2, 6, 1);
        Check.dueLoadError(ROAD + "truck 1 2 6;", 1, 25);
        Check.dueLoadError(ROAD + "truck 1 2;", 1, 23);

        Sentences.test(0, "(each ROAD a road of an earlier statement)");
        Check.due("the statement just before", Check.loaded(ROAD + BACK + "truck 0 0 5 1;").count(1), 1);
        Check.dueLoadError(ROAD + "truck 0 0 5 1;" + BACK, 2, 26);
        Check.dueLoadError(TRUCK + ROAD, 2, 12);
    }

    private static void scripts() {
        Sentences.test(0, "A script, the text of play(), is a sequence of at most 30 commands, perhaps none");
        TruckPlatoons x = new TruckPlatoons();
        Check.due("no command", x.play(), 0);
        Check.due("its error", x.errorCode(), 0);
        Check.due("separators", Check.play(x, " \n"), 0);
        Check.due("30 commands", Check.play(x, "all;".repeat(30)), 30);
        Check.due("no command behind 30", x.play(), 0);
        Check.duePlayError("all;".repeat(31), 4, 120);

        Sentences.test(0, "(TRUCK 0 to 11, PLACE 0 to 9)");
        for (String text : new String[] {"wait 11 9 0;", "speed 11 9 40;", "start 11 0;", "merge 11 11;", "hurry 11;",
            "relax 11;"}) {
            Check.due(text, Check.play(x, text), 0);
            Check.due("the error of " + text, x.errorCode(), 0);
        }
        int[] behindWord = {5, 6, 6, 6, 6, 6};
        String[] tooGreat = {"wait 12 0 0;", "speed 12 0 40;", "start 12 0;", "merge 12 0;", "hurry 12;", "relax 12;"};
        for (int at = 0; at < tooGreat.length; at++) {
            Check.duePlayError(tooGreat[at], 2, behindWord[at]);
        }
        Check.duePlayError("merge 0 12;", 2, 8);
        Check.duePlayError("wait 0 10 0;", 2, 7);
        Check.duePlayError("speed 0 10 40;", 2, 8);

        Sentences.test(0, "(MINUTES 0 to 120,");
        TruckPlatoons y = Check.loaded("road 0 1 9 120;" + TRUCK);
        Check.due("MINUTES 120 and 0", Check.play(y, "wait 0 0 120;wait 0 0 0;"), 2);
        Check.duePlayError("wait 0 0 121;", 2, 9);

        Sentences.test(0, "SPEED 40 to 120, MINUTE");
        Check.due("SPEED 40 and 120", Check.play(y, "speed 0 0 40;speed 0 0 120;"), 2);
        Check.duePlayError("speed 0 0 39;", 2, 10);
        Check.duePlayError("speed 0 0 121;", 2, 10);

        Sentences.test(0, "MINUTE 0 to 2000)");
        Check.due("MINUTE 2000 and 0", Check.play(y, "start 0 2000;start 0 0;"), 2);
        Check.duePlayError("start 0 2001;", 2, 8);

        Sentences.test(0, "wait TRUCK PLACE MINUTES ;  |  speed TRUCK PLACE SPEED ;  |  start TRUCK MINUTE ;  |  "
                + "merge TRUCK TRUCK ;  |  hurry TRUCK ;  |  relax TRUCK ;  |  all ;");
        Check.due("all of them", Check.play(Check.loaded(Worlds.FORK),
                "wait 0 0 1;speed 0 0 50;start 0 1;merge 0 1;hurry 0;relax 0;all;"), 7);
        String[] tooShort = {"wait 0 0;", "speed 0 0;", "start 0;", "merge 0;", "hurry;", "relax;"};
        String[] tooLong = {"wait 0 0 0 0;", "speed 0 0 40 0;", "start 0 0 0;", "merge 0 0 0;", "hurry 0 0;",
            "relax 0 0;", "all 0;"};
        for (String text : tooShort) {
            Check.duePlayError(text, 1, text.length() - 1);
        }
        for (String text : tooLong) {
            Check.duePlayError(text, 1, text.length() - 2);
        }
    }

    private static void errors() {
        Sentences.test(0, "The first error is reported, from left to right,");
        Check.dueLoadError("road 20 1 0 39", 2, 5);
        Check.dueLoadError("road 0 0 0 50; x", 3, 7);
        Check.dueLoadError("road 0 1 9 39;road;", 2, 11);
        Check.dueLoadError(ROAD + "x" + TRUCK.repeat(13), 1, 14);
        Check.duePlayError("hurry 12; wait", 2, 6);

        Sentences.test(0, "(the index of the first byte of the token concerned,");
        Check.dueLoadError("x", 1, 0);
        Check.dueLoadError("\n x", 1, 2);
        Check.dueLoadError("road 0   x", 1, 9);
        Check.dueLoadError("road 0 1   301", 2, 11);
        Check.dueLoadError("road 0 1 301 50;", 2, 9);
        Check.dueLoadError("road 0 1 9 roadroadr", 1, 11);
        Check.dueLoadError(" ".repeat(1499) + "x", 1, 1499);

        Sentences.test(0, "or the length of the text if it ends too early)");
        int[] loads = {4, 6, 8, 10, 13, 14 + 5, 14 + 7, 14 + 9, 14 + 11, 14 + 13};
        for (int length : loads) {
            Check.dueLoadError((ROAD + TRUCK).substring(0, length), 1, length);
        }
        for (String command : new String[] {"wait 0 0 0", "speed 0 0 40", "start 0 0", "merge 0 0", "hurry 0", "all"}) {
            for (int end = command.length(); end > 0; end = command.lastIndexOf(' ', end - 1)) {
                Check.duePlayError(command.substring(0, end), 1, end);
            }
        }
        Check.dueLoadError("road 0 1 \n ", 1, 11);
        Check.dueLoadError(" ".repeat(1496) + "road", 1, 1500);
        Check.dueLoadError(" ".repeat(1491) + "road 0 01", 1, 1500);
        Check.duePlayError("all" + "\n".repeat(1497), 1, 1500);

        Sentences.test(0, "if several codes apply to a token, the lowest one is reported:");
        String eleventh = ROAD + BACK + TEN + " ";
        Check.dueLoadError(eleventh + "truck", 1, 60);
        Check.dueLoadError(eleventh + "000000", 1, 60);
        Check.dueLoadError(eleventh, 1, 60);
        Check.dueLoadError(eleventh + "2", 2, 60);
        Check.dueLoadError(eleventh + "1", 3, 60);
        Check.dueLoadError(eleventh + "0", 4, 60);
        Check.dueLoadError(ROAD + "truck 0 0 5 0 1;", 2, 28);
        Check.dueLoadError(ROAD.repeat(30) + "roads", 1, 420);
        Check.duePlayError("all;".repeat(30) + "alls", 1, 120);
        Check.duePlayError("all;".repeat(30) + "7", 1, 120);
    }

    private static void syntax() {
        Sentences.test(0, "1 syntax: something that is not a token (also a word or number that is too long),");
        Check.dueLoadError("-", 1, 0);
        Check.dueLoadError("road 0 1 9 50,", 1, 13);
        Check.dueLoadError("road 0 1 9 50;\u0000", 1, 14);
        Check.dueLoadError("road 0 1 9 50;\u00ff", 1, 14);
        Check.dueLoadError("road 0 1 9 50;\t", 1, 14);
        Check.dueLoadError("road 0 1 9 50;\r\n", 1, 14);
        Check.dueLoadError("truckload 0 0 5 0;", 1, 0);
        Check.dueLoadError("road 000000 1 9 50;", 1, 5);
        Check.duePlayError("hurry 000000;", 1, 6);

        Sentences.test(0, "or a token that is not allowed at its place;");
        Check.dueLoadError("0", 1, 0);
        Check.dueLoadError("wait 0 0 0;", 1, 0);
        Check.dueLoadError("toad 0 1 9 50;", 1, 0);
        Check.dueLoadError("roar 0 1 9 50;", 1, 0);
        Check.dueLoadError("roa 0 1 9 50;", 1, 0);
        Check.dueLoadError("road road", 1, 5);
        Check.dueLoadError("road 0;", 1, 6);
        Check.dueLoadError("road 0 1 9 50 road", 1, 14);
        Check.dueLoadError(ROAD + "truck 0 0 5;", 1, 25);
        Check.dueLoadError(ROAD + "truck 0 0 5 0 truck", 1, 28);
        Check.duePlayError("road 0 1 9 50;", 1, 0);
        Check.duePlayError("all all;", 1, 4);
        Check.duePlayError("merge all;", 1, 6);
    }

    private static void range() {
        Sentences.test(0, "2 range: a number outside its range (a node 0 to 19; a ROAD that there is not, too);");
        int[] least = {0, 0, 1, 40};
        int[] most = {19, 19, 300, 120};
        String[] heads = {"road ", "road 3 ", "road 3 4 ", "road 3 4 9 "};
        String[] tails = {" 4 9 50;", " 9 50;", " 50;", ";"};
        for (int at = 0; at < heads.length; at++) {
            Check.due("least number", Check.loaded(heads[at] + least[at] + tails[at]).count(0), 1);
            Check.due("greatest number", Check.loaded(heads[at] + most[at] + tails[at]).count(0), 1);
            Check.dueLoadError(heads[at] + (most[at] + 1) + tails[at], 2, heads[at].length());
            if (least[at] > 0) {
                Check.dueLoadError(heads[at] + (least[at] - 1) + tails[at], 2, heads[at].length());
            }
        }
        Check.due("the last ROAD", Check.loaded(ROAD.repeat(30) + "truck 0 0 5 29;").count(1), 1);
        Check.dueLoadError(ROAD.repeat(30) + "truck 0 0 5 30;", 2, 432);
        Check.dueLoadError(ROAD + "truck 0 0 5 1;", 2, 26);
        Check.dueLoadError(TRUCK, 2, 12);
    }

    private static void road() {
        Sentences.test(0, "3 road: a TO that is FROM;");
        Check.dueLoadError("road 0 0 9 50;", 3, 7);
        Check.dueLoadError("road 19 00019 9 50;", 3, 8);
        Check.due("a TO that is the FROM of another", Check.loaded(ROAD + BACK).count(0), 2);

        Sentences.test(0, "a ROAD that does not begin where the one before ends;");
        Check.dueLoadError(ROAD + "truck 0 0 5 0 0;", 3, 28);
        Check.dueLoadError(ROAD + "road 2 3 9 50;truck 0 0 5 0 1;", 3, 42);
        Check.dueLoadError(ROAD + BACK + "truck 0 0 5 0 1 0 1 1;", 3, 48);
        Check.due("a first ROAD has none before", Check.loaded(ROAD + "road 2 3 9 50;truck 0 0 5 1;").count(1), 1);
        Check.due("nor has it that of another truck", Check.loaded(ROAD + TRUCK + TRUCK).count(1), 2);
    }

    private static void limit() {
        Sentences.test(0, "4 limit: the first word of a 31st road,");
        Check.dueLoadError(ROAD.repeat(30) + TRUCK + "road", 4, 434);
        Check.dueLoadError(ROAD.repeat(30) + "road 20", 4, 420);
        Check.due("a truck then", Check.loaded(ROAD.repeat(30) + TRUCK).count(1), 1);

        Sentences.test(0, "of a 13th truck,");
        Check.dueLoadError(ROAD + TRUCK.repeat(12) + BACK + "truck", 4, 196);
        Check.dueLoadError(ROAD + TRUCK.repeat(12) + "truck x", 4, 182);
        Check.due("a road then", Check.loaded(ROAD + TRUCK.repeat(12) + BACK).count(0), 2);

        Sentences.test(0, "of a 31st command;");
        Check.duePlayError("hurry 0;".repeat(30) + " hurry", 4, 241);
        Check.duePlayError("all;".repeat(30) + "wait 99", 4, 120);
        Check.due("spaces then", Check.play(new TruckPlatoons(), "all;".repeat(30) + "  "), 30);

        Sentences.test(0, "an 11th ROAD of a truck.");
        Check.dueLoadError(ROAD + BACK + TEN + " 0", 4, 60);
        Check.dueLoadError(ROAD + BACK + TEN + " 00000;", 4, 60);
        Check.due("the symbol then", Check.loaded(ROAD + BACK + TEN + " ;").truck(0, 3), 10);
    }

    private static void replacing() {
        Sentences.test(0, "A text of load() without errors replaces everything;");
        TruckPlatoons x = Check.loaded(Worlds.FORK);
        x.setWait(0, 0, 9);
        x.setSpeed(0, 0, 50);
        x.setStart(0, 9);
        Check.type(x, "road 3 2 7 70;truck 1 2 6 0;");
        Check.due("load()", x.load(), 1);
        Check.dueRow("count()", 0, x::count, 1, 1, 1, 0, 1, 7 * 272, 0, 0, 0, 1);
        Check.dueRow("road(0)", 0, what -> x.road(0, what), 3, 2, 7, 70, 1, 1);
        Check.dueRow("truck(0)", 0, what -> x.truck(0, what), 1, 2, 6, 1, 7, 7, 7 * 272, 0, 0);
        Check.dueRow("place(0, 0)", 0, what -> x.place(0, 0, what), 0, 0, 70, 1, 1, 7);
        Check.dueIndex("road(1, 0)", () -> x.road(1, 0));
        Check.dueIndex("truck(1, 0)", () -> x.truck(1, 0));
        Check.dueIndex("place(0, 1, 0)", () -> x.place(0, 1, 0));
        Check.due("quickest(0, 1), over a road that was", x.quickest(0, 1), -1);
        TruckPlatoons full = Check.loaded(Worlds.FULL);
        Check.due("mergeAll()", full.mergeAll(), 1);
        Check.type(full, Worlds.FORK);
        full.load();
        Check.dueText("FORK behind the greatest", Worlds.answers(full), Worlds.answers(Check.loaded(Worlds.FORK)));
        // at the place 1 of trucks 2 and 3, who close up there, is nothing any more
        TruckPlatoons zip = Check.loaded("road 0 1 60 80;road 1 2 60 80;road 2 3 60 80;road 2 4 60 80;"
                + "truck 0 999 10 0 1 2;truck 0 999 10 0 1 3;truck 0 999 10 0 1 2;truck 0 999 10 0 1 3;");
        Check.due("closing up at place 1", zip.count(7), 600);
        Check.type(zip, ROAD + TRUCK.repeat(6));
        zip.load();
        Check.due("closing up then", zip.count(7), 0);
        Check.due("closing up in the platoon", zip.platoon(0, 0, 4), 0);
        Check.dueRow("closing up of each", 0, truck -> zip.truck(truck, 8), 0, 0, 0, 0, 0, 0);
        Check.due("load() of nothing", x.load(), 0);
        Check.dueRow("count() then", 0, x::count, 0, 0, 0, 0, 0, 0, 0, 0, 0, 0);
        Check.dueIndex("truck(0, 0) then", () -> x.truck(0, 0));

        Sentences.test(0, "nothing can be undone then, and there");
        TruckPlatoons y = Check.loaded(Worlds.FORK);
        y.setWait(0, 0, 9);
        Check.type(y, Worlds.FORK);
        y.load();
        Check.due("edits", y.count(8), 0);
        Check.due("undo()", y.undo(), -1);
        Check.due("WAIT", y.place(0, 0, 1), 0);
        y.setWait(0, 0, 8);
        Check.due("undo() of a later edit", y.undo(), 0);

        Sentences.test(0, "and there are no snapshots.");
        y.saveSnapshot(0);
        y.saveSnapshot(1);
        Check.type(y, Worlds.FORK);
        y.load();
        Check.due("restoreSnapshot(0)", y.restoreSnapshot(0), false);
        Check.due("restoreSnapshot(1)", y.restoreSnapshot(1), false);
    }

    private static void newObject() {
        Sentences.test(1, "Creates a planner without roads and trucks.");
        TruckPlatoons x = new TruckPlatoons();
        Check.dueRow("count()", 0, x::count, 0, 0, 0, 0, 0, 0, 0, 0, 0, 0);
        Check.dueIndex("road(0, 0)", () -> x.road(0, 0));
        Check.dueIndex("truck(0, 0)", () -> x.truck(0, 0));
        Check.due("the buffer", x.truncateInput(1), -1);
        Check.due("sets", x.alone() | x.lateOnes(), 0);
        Check.due("bestRoad()", x.bestRoad(), -1);
        Check.due("mergeAll()", x.mergeAll(), 0);
        Check.due("undo() of it", x.undo(), 0);
        Check.due("undo() of nothing", x.undo(), -1);
    }

    private static void appending() {
        Sentences.test(2,
                "Appends 20 bytes to the input buffer: the four bytes of each argument, most significant byte first.");
        TruckPlatoons x = new TruckPlatoons();
        Check.due("append", x.appendInput(0x726f6164, 0x20312032, 0x20332034, 0x353b2020, 0x20202020), 20);
        Check.due("load()", x.load(), 0);
        Check.dueRow("road 1 2 3 45", 0, what -> x.road(0, what), 1, 2, 3, 45);
        // a negative argument is no more than its bytes: 0xfe is no token, what stands ahead of it is good
        x.appendInput(0x726f6164, 0x20312032, 0x20332034, 0x35202020, 0xfe202020);
        Check.due("load() with a byte above 127", x.load(), -2);
        Check.due("its position", x.errorPosition(), 16);
        String[] words = {"w0: first four bytes", "w1: next four bytes", "w2: next four bytes", "w3: next four bytes",
            "w4: last four bytes"};
        for (int at = 0; at < words.length; at++) {
            Sentences.test(2, words[at]);
            for (int byteAt = 0; byteAt < 4; byteAt++) {
                int[] w = new int[5];
                Arrays.fill(w, 0x20202020);
                w[at] = w[at] & ~(255 << 24 - 8 * byteAt) | 'x' << 24 - 8 * byteAt;
                x.appendInput(w[0], w[1], w[2], w[3], w[4]);
                Check.due("load() of an x", x.load(), -2);
                Check.due("its position", x.errorPosition(), 4 * at + byteAt);
            }
        }

        Sentences.test(2, "Returns the new length of the buffer;");
        TruckPlatoons y = new TruckPlatoons();
        Check.due("append to nothing", y.appendInput(0, 0, 0, 0, 0), 20);
        y.truncateInput(7);
        Check.due("append to 7 bytes", y.appendInput(-1, -1, -1, -1, -1), 27);

        Sentences.test(2, "NONE if it would exceed 1500 bytes (then nothing is appended).");
        for (int length = 1480; length <= 1481; length++) {
            TruckPlatoons z = new TruckPlatoons();
            Check.type(z, ROAD + " ".repeat(length - 14));
            boolean fits = length == 1480;
            Check.due("append to " + length, z.appendInput(0x78787878, 0, 0, 0, 0), fits ? 1500 : -1);
            Check.due("append then", z.appendInput(0, 0, 0, 0, 0), -1);
            Check.due("the length then", z.truncateInput(length + 1), fits ? length + 1 : -1);
            Check.due("load() then", z.load(), fits ? -2 : 0);
            Check.due("errorPosition() then", z.errorPosition(), fits ? 1480 : -1);
        }
    }

    private static void truncating() {
        Sentences.test(3, "length: 0 to the current length");
        TruckPlatoons x = new TruckPlatoons();
        Check.due("truncateInput(0) of nothing", x.truncateInput(0), 0);
        x.appendInput(0, 0, 0, 0, 0);
        Check.due("truncateInput(20)", x.truncateInput(20), 20);
        Check.due("truncateInput(19)", x.truncateInput(19), 19);
        Check.due("truncateInput(20) then", x.truncateInput(20), -1);
        Check.due("truncateInput(0)", x.truncateInput(0), 0);
        Check.due("truncateInput(1) then", x.truncateInput(1), -1);

        Sentences.test(3, "Shortens the input buffer to its first bytes.");
        String[] texts = {"road 0 1 9 50;", "roads", ROAD + "x", "road 0 1 9 50"};
        int[] lengths = {12, 4, 14, 12};
        int[] codes = {2, 1, 0, 2};
        int[] positions = {11, 4, -1, 11};
        for (int at = 0; at < texts.length; at++) {
            TruckPlatoons y = new TruckPlatoons();
            Check.type(y, texts[at]);
            y.truncateInput(lengths[at]);
            y.load();
            Check.due("errorCode() of less of " + texts[at], y.errorCode(), codes[at]);
            Check.due("errorPosition() of less of " + texts[at], y.errorPosition(), positions[at]);
        }

        Sentences.test(3, "NONE if length is out of range.");
        Check.type(x, ROAD);
        for (int length : new int[] {-1, 15, 1500, 1501, Integer.MAX_VALUE, Integer.MIN_VALUE}) {
            Check.due("truncateInput(" + length + ")", x.truncateInput(length), -1);
        }
        Check.due("the length then", x.appendInput(0x20202020, 0x20202020, 0x20202020, 0x20202020, 0x20202020), 34);
        Check.due("load() then", x.load(), 0);
        Check.due("roads then", x.count(0), 1);
    }

    private static void loading() {
        Sentences.test(4, "Returns the number of trucks;");
        Check.due("load() of nothing", new TruckPlatoons().load(), 0);
        for (int trucks = 0; trucks <= 12; trucks += 6) {
            TruckPlatoons x = new TruckPlatoons();
            Check.type(x, ROAD + TRUCK.repeat(trucks));
            Check.due("load() of " + trucks, x.load(), trucks);
        }

        Sentences.test(4, "TEXT_ERROR if the text has an error (then only the buffer and the error change).");
        TruckPlatoons x = Check.loaded(Worlds.FORK);
        x.setWait(0, 0, 9);
        x.write(0);
        x.saveSnapshot(0);
        x.setSpeed(0, 1, 50);
        String before = Worlds.state(x);
        // all of it is good but for the last sign
        Check.type(x, "road 4 5 6 70;truck 1 2 6 0;truck 3 4 7 0;-");
        Check.due("load()", x.load(), -2);
        Check.dueText("what there is", Worlds.state(x), before);
        Check.due("errorCode()", x.errorCode(), 1);
        Check.due("truncateInput(1)", x.truncateInput(1), -1);
        Check.due("quickest(4, 5)", x.quickest(4, 5), -1);
        Check.due("KEY", x.key(2, 0), 1);
        Check.due("undo()", x.undo(), 1);
        Check.due("SPEED then", x.place(0, 1, 2), 80);
        Check.due("restoreSnapshot(0)", x.restoreSnapshot(0), true);
    }

    private static void latestError() {
        String[] loads = {"x", "road 20", "road 0 0", ROAD.repeat(31)};
        int[] positions = {0, 5, 7, 420};
        TruckPlatoons x = new TruckPlatoons();

        Sentences.test(5, "Returns the error code of the latest load() or play().");
        for (int at = 0; at < loads.length; at++) {
            Check.type(x, loads[at]);
            x.load();
            Check.due("errorCode() of a load()", x.errorCode(), at + 1);
            Check.play(x, "all;all");
            Check.due("errorCode() of a play()", x.errorCode(), 1);
        }

        Sentences.test(5, "Returns 1 to 4; 0 if the text had no error, or if there was none.");
        Check.due("errorCode() of a new object", new TruckPlatoons().errorCode(), 0);
        Check.due("a script whose command fails", Check.play(x, "hurry 0;"), 0);
        Check.due("errorCode() of it", x.errorCode(), 0);
        Check.play(x, "all");
        x.load();
        Check.due("errorCode() of a load() of nothing", x.errorCode(), 0);

        Sentences.test(6, "Returns the error position of the latest load() or play().");
        for (int at = 0; at < loads.length; at++) {
            Check.type(x, loads[at]);
            x.load();
            Check.due("errorPosition() of a load()", x.errorPosition(), positions[at]);
            Check.play(x, "all;all");
            Check.due("errorPosition() of a play()", x.errorPosition(), 7);
        }

        Sentences.test(6, "NONE if the text had no error, or if there was none.");
        Check.due("errorPosition() of a new object", new TruckPlatoons().errorPosition(), -1);
        Check.due("a script whose command fails", Check.play(x, "hurry 0;"), 0);
        Check.due("errorPosition() of it", x.errorPosition(), -1);
        Check.play(x, "all");
        x.load();
        Check.due("errorPosition() of a load() of nothing", x.errorPosition(), -1);
    }
}
