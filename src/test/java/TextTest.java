/** Promises 1 to 6, and the text of play(): the new object, the input, statements, commands and their errors. */
public final class TextTest {
    public static void main(String[] args) {
        newObject();
        buffer();
        loading();
        syntax();
        ranges();
        roads();
        limits();
        lowestCode();
        scripts();
        latestText();
        fullBuffer();
        Check.end();
    }

    private static void newObject() {
        TruckPlatoons x = new TruckPlatoons();
        for (int what = 0; what < 10; what++) {
            Check.due("count(" + what + ") of a new object", x.count(what), 0);
        }
        Check.due("errorCode() of a new object", x.errorCode(), 0);
        Check.due("errorPosition() of a new object", x.errorPosition(), -1);
        Check.due("digest() of a new object", x.digest(), 1);
        Check.due("undo() of a new object", x.undo(), -1);
        Check.due("restoreSnapshot(0) of a new object", x.restoreSnapshot(0), false);
        Check.due("outputByte(0) of a new object", x.outputByte(0), -1);
        Check.due("truncateInput(1) of a new object", x.truncateInput(1), -1);
        Check.due("saveSnapshot(0) of a new object", x.saveSnapshot(0), true);
        Check.due("restoreSnapshot(0) then", x.restoreSnapshot(0), true);
        Check.due("NONE", TruckPlatoons.NONE, -1);
        Check.due("TEXT_ERROR", TruckPlatoons.TEXT_ERROR, -2);
        Check.due("REFUSED", TruckPlatoons.REFUSED, -3);
    }

    private static void buffer() {
        TruckPlatoons x = new TruckPlatoons();
        for (int appended = 1; appended <= 75; appended++) {
            Check.due("append " + appended, x.appendInput(-1, 0, 0, 0, 0), 20 * appended);
        }
        Check.due("append to 1500 bytes", x.appendInput(0, 0, 0, 0, 0), -1);
        Check.due("truncateInput(1501)", x.truncateInput(1501), -1);
        Check.due("truncateInput(-1)", x.truncateInput(-1), -1);
        Check.due("truncateInput(Integer.MIN_VALUE)", x.truncateInput(Integer.MIN_VALUE), -1);
        Check.due("truncateInput(1500)", x.truncateInput(1500), 1500);
        Check.due("truncateInput(1481)", x.truncateInput(1481), 1481);
        Check.due("append to 1481 bytes", x.appendInput(0, 0, 0, 0, 0), -1);
        Check.due("truncateInput(1480)", x.truncateInput(1480), 1480);
        Check.due("append to 1480 bytes", x.appendInput(0, 0, 0, 0, 0), 1500);
        Check.due("truncateInput(0)", x.truncateInput(0), 0);
        Check.due("truncateInput(0) again", x.truncateInput(0), 0);
        // "road", " 0 1", " 9 5", "0 ; ", and spaces: most significant byte first
        Check.due("append a road", x.appendInput(0x726f6164, 0x20302031, 0x20392035, 0x30203b20, 0x20202020), 20);
        Check.due("load() of a road", x.load(), 0);
        Check.due("count(0)", x.count(0), 1);
        Check.due("LENGTH", x.road(0, 2), 9);
        Check.due("LIMIT", x.road(0, 3), 50);
        Check.due("truncateInput(1) behind load()", x.truncateInput(1), -1);
    }

    private static void loading() {
        Check.due("load() of nothing", new TruckPlatoons().load(), 0);
        TruckPlatoons x = Check.loaded(" \n road\n0 1 00060 0040;road 19 0 1 120;\n\n"
                + "truck 2000 10000 60 0;truck 0 0 5 1 0;");
        Check.due("trucks", x.count(1), 2);
        Check.due("roads", x.count(0), 2);
        Check.due("START", x.truck(0, 0), 2000);
        Check.due("first SPEED, by LIMIT", x.place(0, 0, 2), 40);
        Check.due("first SPEED 80", x.place(1, 0, 2), 80);
        Check.due("first WAIT", x.place(1, 0, 1), 0);
        Check.due("words and numbers need no space between them",
                Check.loaded("road0 1 60 80;truck0 500 10 0;").count(1), 1);
        TruckPlatoons full = Check.loaded("road 0 1 9 50;".repeat(30) + "truck 0 0 5 0;".repeat(12));
        Check.due("30 roads", full.count(0), 30);
        Check.due("12 trucks", full.count(1), 12);
        TruckPlatoons ring = Check.loaded("road 0 1 9 50;road 1 0 9 50;truck 0 0 5 0 1 0 1 0 1 0 1 0 1;");
        Check.due("10 places", ring.truck(0, 3), 10);

        x = Check.loaded(Worlds.FORK);
        x.setWait(0, 0, 7);
        x.saveSnapshot(1);
        Check.type(x, "road 0 1 60 80;truck 0 500 10 1;");
        Check.due("load() with an error", x.load(), -2);
        Check.due("trucks behind an error", x.count(1), 4);
        Check.due("WAIT behind an error", x.place(0, 0, 1), 7);
        Check.due("edits behind an error", x.count(8), 1);
        Check.due("snapshot behind an error", x.restoreSnapshot(1), true);
        x.setWait(0, 0, 8);
        Check.type(x, "road 5 6 10 80;truck 3 500 10 0;");
        Check.due("load() of another text", x.load(), 1);
        Check.due("its roads", x.count(0), 1);
        Check.due("its START", x.truck(0, 0), 3);
        Check.due("its WAIT", x.place(0, 0, 1), 0);
        Check.due("its edits", x.count(8), 0);
        Check.due("its undo()", x.undo(), -1);
        Check.due("its snapshots", x.restoreSnapshot(1), false);
        x.saveSnapshot(0);
        Check.type(x, Worlds.ZIP);
        x.load();
        Check.due("snapshots behind another load()", x.restoreSnapshot(0), false);
        Check.due("KEY behind another load()", x.key(0, 0), 2);
        Check.type(x, "road 0 1 60 80;truck 0 500 10 0;truck 0 500 10 0;truck 0 500 10 0;");
        x.load();
        Check.due("KEY behind a third load()", x.key(0, 0), 1);
        Check.due("RUN behind a third load()", x.run(0, 2, 2), 1);
        Check.due("load() of nothing behind it", x.load(), 0);
        Check.due("roads behind that", x.count(0), 0);
        Check.dueIndex("truck(0, 0) behind that", () -> x0().truck(0, 0));
    }

    private static TruckPlatoons x0() {
        TruckPlatoons x = Check.loaded(Worlds.FORK);
        x.load();
        return x;
    }

    private static void syntax() {
        Check.dueLoadError("roads 0 1 60 80;", 1, 0);
        Check.dueLoadError("  wait 0 0 1;", 1, 2);
        Check.dueLoadError("toad 0 1 60 80;", 1, 0);
        Check.dueLoadError("roar 0 1 60 80;", 1, 0);
        Check.dueLoadError("roa 0 1 60 80;", 1, 0);
        Check.dueLoadError("7", 1, 0);
        Check.dueLoadError(";", 1, 0);
        Check.dueLoadError("Road 0 1 60 80;", 1, 0);
        Check.dueLoadError("rOad 0 1 60 80;", 1, 0);
        Check.dueLoadError("roadX 0 1 60 80;", 1, 4);
        Check.dueLoadError("roadz 0 1 60 80;", 1, 0);
        Check.dueLoadError("roada 0 1 60 80;", 1, 0);
        Check.dueLoadError("road{ 0 1 60 80;", 1, 4);
        Check.dueLoadError("road` 0 1 60 80;", 1, 4);
        Check.dueLoadError("road 0:1 60 80;", 1, 6);
        Check.dueLoadError("road 0/1 60 80;", 1, 6);
        Check.dueLoadError("roadroadr 0 1 60 80;", 1, 0);
        Check.dueLoadError("road 0 000001 60 80;", 1, 7);
        Check.dueLoadError("road 0 123456 60 80;", 1, 7);
        Check.dueLoadError("road 0 -1 60 80;", 1, 7);
        Check.dueLoadError("road 0 road 60 80;", 1, 7);
        Check.dueLoadError("road 0 1 60;", 1, 11);
        Check.dueLoadError("road 0 1 60 80 9;", 1, 15);
        Check.dueLoadError("road 0 1 60 80", 1, 14);
        Check.dueLoadError("road 0 1 60 80 \n ", 1, 17);
        Check.dueLoadError("road", 1, 4);
        Check.dueLoadError("road 0 1 60\t80;", 1, 11);
        Check.dueLoadError("road 0 1 60\r\n80;", 1, 11);
        Check.dueLoadError("road 0 1 60 80;\u00ff", 1, 15);
        Check.dueLoadError("road 0 1 60 80;\u0000", 1, 15);
        Check.dueLoadError("road 0 1 60 80;;", 1, 15);
        Check.dueLoadError("road 0 1 60 80;truck 0 0 5;", 1, 26);
        Check.dueLoadError("road 0 1 60 80;truck 0 0 5 0", 1, 28);
        Check.dueLoadError("road 0 1 60 80;truck 0 0 5 0 x;", 1, 29);
        Check.dueLoadError("road 0 1 60 80;truck 0 0 5 0,0;", 1, 28);
    }

    private static void ranges() {
        Check.dueLoadError("road 20 1 60 80;", 2, 5);
        Check.dueLoadError("road 0 20 60 80;", 2, 7);
        Check.dueLoadError("road 0 1 0 80;", 2, 9);
        Check.dueLoadError("road 0 1 301 80;", 2, 9);
        Check.dueLoadError("road 0 1 300 39;", 2, 13);
        Check.dueLoadError("road 0 1 1 121;", 2, 11);
        Check.dueLoadError("road 0 1 1 99999;", 2, 11);
        Check.dueLoadError("truck 2001 0 5 0;", 2, 6);
        Check.dueLoadError("truck 0 10001 5 0;", 2, 8);
        Check.dueLoadError("truck 0 0 4 0;", 2, 10);
        Check.dueLoadError("truck 0 0 61 0;", 2, 10);
        Check.dueLoadError("truck 0 0 5 0;road 0 1 60 80;", 2, 12);
        Check.dueLoadError("road 0 1 60 80;truck 0 0 5 1;", 2, 27);
        Check.dueLoadError("road 0 1 60 80;truck 0 0 5 0 30;", 2, 29);
    }

    private static void roads() {
        Check.dueLoadError("road 7 7 60 80;", 3, 7);
        Check.dueLoadError("road 0 1 60 80;truck 0 0 5 0 0;", 3, 29);
        Check.dueLoadError("road 0 1 60 80;road 1 2 60 80;truck 0 0 5 0 1 0;", 3, 46);
    }

    private static void limits() {
        Check.dueLoadError("road 0 1 9 50;".repeat(30) + " road", 4, 421);
        Check.dueLoadError("road 0 1 9 50;" + "truck 0 0 5 0;".repeat(12) + "truck 0 0 5 0;", 4, 182);
        Check.dueLoadError("road 0 1 9 50;road 1 0 9 50;truck 0 0 5 0 1 0 1 0 1 0 1 0 1 0;", 4, 60);
    }

    private static void lowestCode() {
        String ten = "road 0 1 9 50;road 1 0 9 50;truck 0 0 5 0 1 0 1 0 1 0 1 0 1 ";
        Check.dueLoadError(ten + "x", 1, 60);
        Check.dueLoadError(ten, 1, 60);
        Check.dueLoadError(ten + "2", 2, 60);
        Check.dueLoadError(ten + "1", 3, 60);
        Check.dueLoadError("road 0 1 9 50;".repeat(30) + "rod", 1, 420);
        Check.dueLoadError("road 0 1 9 50;truck 0 0 5 0 7 x", 2, 28);
        Check.dueLoadError("road 20 20 0 0;", 2, 5);
    }

    private static void scripts() {
        Check.duePlayError("road 0 1 60 80;", 1, 0);
        Check.duePlayError("all", 1, 3);
        Check.duePlayError("all 0;", 1, 4);
        Check.duePlayError("hurry;", 1, 5);
        Check.duePlayError("relax x;", 1, 6);
        Check.duePlayError("wait 0 0;", 1, 8);
        Check.duePlayError("start 0 0 0;", 1, 10);
        Check.duePlayError("merge 0 0 ", 1, 10);
        Check.duePlayError("wait 12 0 0;", 2, 5);
        Check.duePlayError("wait 11 10 0;", 2, 8);
        Check.duePlayError("wait 11 9 121;", 2, 10);
        Check.duePlayError("speed 12 0 80;", 2, 6);
        Check.duePlayError("speed 0 10 80;", 2, 8);
        Check.duePlayError("speed 0 0 39;", 2, 10);
        Check.duePlayError("speed 0 0 121;", 2, 10);
        Check.duePlayError("start 12 0;", 2, 6);
        Check.duePlayError("start 0 2001;", 2, 8);
        Check.duePlayError("merge 12 0;", 2, 6);
        Check.duePlayError("merge 0 12;", 2, 8);
        Check.duePlayError("hurry 12;", 2, 6);
        Check.duePlayError("relax 12;", 2, 6);
        Check.duePlayError("all;".repeat(30) + "all;", 4, 120);
        Check.duePlayError("all;".repeat(30) + "road", 1, 120);
        Check.due("30 commands", Check.play(new TruckPlatoons(), "all;".repeat(30)), 30);
    }

    private static void fullBuffer() {
        String road = "road 0 1 60 80;";
        Check.due("load() of 1500 bytes", Check.loaded(road + "\n".repeat(1485)).count(0), 1);
        Check.dueLoadError(road + " ".repeat(1484) + "x", 1, 1499);
        Check.dueLoadError(road + " ".repeat(1484) + "7", 1, 1499);
        Check.dueLoadError(" ".repeat(1498) + "1\u00ff", 1, 1498);
        Check.dueLoadError(" ".repeat(1496) + "road", 1, 1500);
        Check.dueLoadError(" ".repeat(1491) + "road 0 01", 1, 1500);
        Check.duePlayError(" ".repeat(1497) + "all", 1, 1500);
        Check.dueLoadError("1".repeat(1500), 1, 0);
        Check.dueLoadError("a".repeat(1500), 1, 0);
    }

    private static void latestText() {
        TruckPlatoons x = new TruckPlatoons();
        Check.play(x, "all; wait");
        Check.due("errorCode() of the latest text", x.errorCode(), 1);
        Check.due("errorPosition() of the latest text", x.errorPosition(), 9);
        x.load();
        Check.due("errorCode() behind a good load()", x.errorCode(), 0);
        Check.due("errorPosition() behind a good load()", x.errorPosition(), -1);
        Check.type(x, "road 0 0 1 40;");
        x.load();
        Check.due("errorCode() of a bad load()", x.errorCode(), 3);
        Check.due("play() of nothing", x.play(), 0);
        Check.due("errorCode() behind play()", x.errorCode(), 0);
        Check.due("errorPosition() behind play()", x.errorPosition(), -1);
    }
}
