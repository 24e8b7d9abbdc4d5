/** Promises 54 to 61: the input buffer, programs, undo and the saved copy. */
final class ProgramsTest {
    private ProgramsTest() {
    }

    static void test() {
        type();
        run();
        runDoesAllOrNothing();
        runEmptiesTheBuffer();
        errorPosition();
        failedCommand();
        undoableCount();
        undo();
        undoLeavesTheRest();
        save();
        restore();
    }

    private static void type() {
        Check.promise(54);
        SeriesArchive archive = new SeriesArchive();
        Check.same("blank", archive.type(' '), 1);
        Check.same("tilde", archive.type('~'), 2);
        for (int character : new int[] {0, 10, 31, 127, 128, 233, 65535}) {
            Check.raisesArgument("character " + character, () -> archive.type((char) character));
        }
        for (int i = 3; i <= 60; i++) {
            Check.same("character " + i, archive.type('a'), i);
        }
        Check.raisesState("full", () -> archive.type('a'));
        Check.raisesArgument("full and out of range", () -> archive.type((char) 127));
        Check.raisesArgument("malformed", archive::run);
        Check.same("empty again", archive.type('a'), 1);
    }

    private static void run() {
        Check.promise(55);
        SeriesArchive archive = new SeriesArchive();
        Check.same("six", Check.run(archive, "put 0 -7;set 0 0=5;copy 1<0;turn 1;shift 1 04;smooth 1 9"), 6);
        Check.same("series", Check.all(archive), "5|9|||1|1");
        Check.same("five", Check.run(archive, "put 1 -1;put 1 98;cut 1 1;copy 3<1;steps 3"), 5);
        Check.same("series", Check.all(archive), "5|-1 98||99|3|2");
        Check.same("two", Check.run(archive, "clip 1 -0 50;set 0 00=-99"), 2);
        Check.same("series", Check.all(archive), "-99|0 50||99|3|3");
        Check.same("one", Check.run(archive, "turn 1"), 1);
        Check.same("series", Check.all(archive), "-99|50 0||99|3|4");
        Check.same("signs", Check.run(archive, "shift 1 -9;put 2 -09;put 2 9;smooth 2 1;clip 1 -9 -9"), 5);
        Check.same("series", Check.all(archive), "-99|-9 -9|0 0|99|5|5");
        Check.same("eight", Check.run(archive, "turn 0;turn 0;turn 0;turn 0;turn 0;turn 0;turn 0;put 0 -1"), 8);
        Check.same("series", Check.all(archive), "-99 -1|-9 -9|0 0|99|6|6");
        String full = "put 0 10;set 0 2=11;turn 1;smooth 3 1;clip 0 -99 11;cut 0 01";
        Check.same("a full buffer", Check.type(archive, full), 60);
        Check.same("six", archive.run(), 6);
        Check.same("series", Check.all(archive), "-1 11|-9 -9|0 0|99|7|7");
    }

    private static void runDoesAllOrNothing() {
        Check.promise(55);
        SeriesArchive archive = Check.archive(1, 2, 3);
        String before = Check.all(archive);
        String[] failing = {"put 4 1", "put 0 5;cut 0 5", "set 0 3=1", "copy 0<4", "copy 9<0", "turn 7",
            "turn 0;shift 0 99", "smooth 0 0", "steps 1", "clip 0 2 1", "cut 0 00", "cut 1 1",
            "copy 1<0;set 1 0=-99;set 1 1=99;steps 1", "put 3 1;put 3 2;turn 0;clip 0 0 0;cut 3 3"};
        for (String program : failing) {
            Check.raisesState(program, () -> Check.run(archive, program));
            Check.same("after " + program, Check.all(archive), before);
        }
        Check.raisesArgument("malformed after a failing command", () -> Check.run(archive, "put 9 1;put"));
        Check.raisesArgument("malformed after a fine command", () -> Check.run(archive, "put 0 1;put 0 100"));
        Check.same("after malformed ones", Check.all(archive), before);
        SeriesArchive full = Check.archive(Check.upTo(18));
        Check.raisesState("one too many", () -> Check.run(full, "put 0 19;put 0 20"));
        Check.same("length", full.length(0), 19);
        Check.same("a command sees the ones before", Check.run(full, "put 0 19;cut 0 19;put 0 20"), 3);
        Check.same("series", Check.series(full, 0), "19 20");
    }

    private static void runEmptiesTheBuffer() {
        Check.promise(55);
        SeriesArchive archive = Check.archive(1);
        Check.run(archive, "turn 0");
        Check.same("after a run", archive.type('t'), 1);
        Check.raisesArgument("malformed", archive::run);
        Check.same("after a malformed one", Check.type(archive, "turn 9"), 6);
        Check.raisesState("failing", archive::run);
        Check.same("after a failing one", Check.type(archive, "turn 0"), 6);
        Check.same("runs", archive.run(), 1);
    }

    private static void malformed(String program, int position) {
        SeriesArchive archive = new SeriesArchive();
        Check.raisesArgument(program, () -> Check.run(archive, program));
        Check.same("position in " + program, archive.errorPosition(), position);
    }

    private static void errorPosition() {
        Check.promise(56);
        SeriesArchive archive = Check.archive(1);
        Check.raisesNoElement("at first", archive::errorPosition);
        Check.run(archive, "turn 0");
        Check.raisesState("failing", () -> Check.run(archive, "turn 9"));
        Check.raisesNoElement("still none", archive::errorPosition);
        Check.raisesArgument("malformed", () -> Check.run(archive, "turn 0;turn x"));
        Check.same("position", archive.errorPosition(), 12);
        Check.run(archive, "turn 0");
        archive.undo();
        archive.save();
        archive.restore();
        Check.same("stays", archive.errorPosition(), 12);
        Check.raisesArgument("malformed", archive::run);
        Check.same("the latest", archive.errorPosition(), 0);

        String[] whole = {"put 0 -99", "set 0 19=-99", "cut 0 19", "copy 0<0", "turn 0", "shift 0 -99",
            "smooth 0 0", "steps 0", "clip 0 -99 -99"};
        for (String command : whole) {
            malformed(command + ";", command.length() + 1);
            malformed(command + " ", command.length());
            malformed(command + "0", command.length());
            malformed(command + ";;", command.length() + 1);
            malformed(command + "; turn 0", command.length() + 1);
            for (int end = 0; command.charAt(end) != '0'; end++) {
                malformed(command.substring(0, end), end);
                malformed(command.substring(0, end) + '~', end);
                malformed("turn 0;" + command.substring(0, end) + 'D', end + 7);
            }
        }
        malformed("Put 0 1", 0);
        malformed("x", 0);
        malformed("sx", 1);
        malformed("pet 0 1", 1);
        malformed("shoft 0 1", 2);
        malformed("stop", 2);
        malformed("smooth 0 10", 10);
        malformed("smooth 0 -1", 9);
        malformed("copu 0", 3);
        malformed("ct 0 1", 1);
        malformed("cop 0<1", 3);
        malformed("step 0", 4);
        malformed("put D 5", 4);
        malformed("put 0 N", 6);
        malformed("set 0 I=1", 6);
        malformed("put 00 1", 5);
        malformed("put 0  1", 6);
        malformed("put 0 --1", 7);
        malformed("put 0 +1", 6);
        malformed("put 0 -", 7);
        malformed("put 0 -x", 7);
        malformed("put 0 1 ", 7);
        malformed("put 0 100", 8);
        malformed("put 0 -100", 9);
        malformed("set 0 -1=1", 6);
        malformed("set 0 100=1", 8);
        malformed("set 0 1", 7);
        malformed("set 0 12", 8);
        malformed("set 0 1 = 1", 7);
        malformed("set 0 1=", 8);
        malformed("set 0 1=-", 9);
        malformed("set 0 1=100", 10);
        malformed("cut 0 -1", 6);
        malformed("copy 0<", 7);
        malformed("copy 0<00", 8);
        malformed("copy 0 0", 6);
        malformed("clip 0 1", 8);
        malformed("clip 0 1;", 8);
        malformed("clip 0 1 ", 9);
        malformed("clip 0 11", 9);
        malformed("clip 0 111", 9);
        malformed("clip 0 -1 -", 11);
        malformed("turn 0,turn 0", 6);
        malformed("turn 0;turn 0;tu", 16);
        malformed("turn 0;turn 0;turn 0;turn 0;turn 0;turn 0;turn 0;turn 0;turn", 60);
        malformed("put 9 1;put 0 1;put", 19);
    }

    private static void failedCommand() {
        Check.promise(57);
        SeriesArchive archive = Check.archive(1);
        Check.raisesNoElement("at first", archive::failedCommand);
        Check.run(archive, "turn 0");
        Check.raisesArgument("malformed", archive::run);
        Check.raisesState("method", () -> archive.toSteps(3));
        Check.raisesNoElement("still none", archive::failedCommand);
        Check.raisesState("third", () -> Check.run(archive, "turn 0;turn 1;turn 4;turn 5"));
        Check.same("third", archive.failedCommand(), 2);
        Check.run(archive, "turn 0");
        Check.raisesArgument("malformed", () -> Check.run(archive, "turn 9;"));
        archive.undo();
        archive.save();
        archive.restore();
        Check.same("stays", archive.failedCommand(), 2);
        Check.raisesState("first", () -> Check.run(archive, "smooth 0 0"));
        Check.same("first", archive.failedCommand(), 0);
        String seven = "turn 0;turn 0;turn 0;turn 0;turn 0;turn 0;turn 0;";
        Check.raisesState("eighth", () -> Check.run(archive, seven + "turn 4"));
        Check.same("eighth", archive.failedCommand(), 7);
    }

    private static void undoableCount() {
        Check.promise(58);
        SeriesArchive archive = new SeriesArchive();
        Check.same("new", archive.undoableCount(), 0);
        for (int i = 1; i <= 10; i++) {
            archive.append(0, i);
            Check.same("after " + i, archive.undoableCount(), Math.min(i, 8));
        }
        archive.undo();
        Check.same("after undo", archive.undoableCount(), 7);
        archive.reverse(3);
        Check.same("without effect", archive.undoableCount(), 8);
        archive.undo();
        archive.undo();
        Check.raisesState("refused", () -> archive.toSteps(3));
        Check.raisesState("failing", () -> Check.run(archive, "turn 0;turn 9"));
        Check.raisesArgument("malformed", archive::run);
        archive.save();
        archive.formatSeries(0);
        Check.same("nothing counts", archive.undoableCount(), 6);
        Check.run(archive, "turn 0;turn 1;turn 2");
        Check.same("a run counts once", archive.undoableCount(), 7);
        archive.restore();
        Check.same("after restore", archive.undoableCount(), 0);
    }

    private static void undo() {
        Check.promise(59);
        SeriesArchive archive = Check.archive(1, 2, 3, 4);
        archive.setValue(0, 0, 9);
        archive.removeFirst(0, 1);
        archive.copy(3, 0);
        archive.reverse(3);
        archive.shift(3, 5);
        archive.smooth(3, 1);
        archive.toSteps(3);
        archive.clip(3, 0, 0);
        String[] due = {"2 3 4|||0 -1|4|7", "2 3 4|||8 8 7|4|6", "2 3 4|||9 8 7|4|5", "2 3 4|||4 3 2|4|4",
            "2 3 4|||2 3 4|4|3", "2 3 4||||4|2", "9 2 3 4||||4|1", "1 2 3 4||||4|0"};
        for (int i = 0; i < 8; i++) {
            Check.same("undo " + i, archive.undo(), 7 - i);
            Check.same("after undo " + i, Check.all(archive), due[i]);
        }
        Check.raisesState("the ninth", archive::undo);
        Check.same("unchanged", Check.all(archive), "1 2 3 4||||4|0");
        Check.raisesState("new", () -> new SeriesArchive().undo());
        Check.run(archive, "put 0 5;turn 0;put 1 6");
        archive.reverse(0);
        Check.same("undo", archive.undo(), 1);
        Check.same("series", Check.all(archive), "5 4 3 2 1|6|||6|1");
        Check.same("undo a run", archive.undo(), 0);
        Check.same("series", Check.all(archive), "1 2 3 4||||4|0");
        SeriesArchive other = Check.archive(1, 2);
        other.undo();
        other.append(0, 3);
        Check.same("after undo and a change", other.undo(), 1);
        Check.same("series", Check.all(other), "1||||1|1");
        Check.same("the first", other.undo(), 0);
        Check.same("series", Check.all(other), "||||0|0");
        SeriesArchive nine = Check.archive(1, 2, 3, 4, 5, 6, 7, 8, 9);
        for (int i = 0; i < 8; i++) {
            nine.undo();
        }
        Check.raisesState("the ninth change is out of reach", nine::undo);
        Check.same("series", Check.all(nine), "1||||1|0");
        SeriesArchive kept = Check.archive(1, 2, 3, 4, 5, 6, 7, 8);
        Check.raisesState("a failing run drops no change", () -> Check.run(kept, "put 0 9;turn 9"));
        for (int i = 0; i < 8; i++) {
            kept.undo();
        }
        Check.same("all undone", Check.all(kept), "||||0|0");
    }

    private static void undoLeavesTheRest() {
        Check.promise(59);
        SeriesArchive archive = Check.archive(1, 2);
        archive.save();
        Check.raisesState("failing", () -> Check.run(archive, "turn 0;turn 9"));
        Check.raisesArgument("malformed", () -> Check.run(archive, "turn"));
        archive.formatSeries(0);
        Check.type(archive, "turn 0");
        archive.undo();
        Check.same("line", Check.line(archive, 3), "1 2");
        Check.same("failed command", archive.failedCommand(), 1);
        Check.same("error position", archive.errorPosition(), 4);
        Check.same("input buffer", archive.type(';'), 7);
        Check.type(archive, "put 0 3");
        Check.same("commands", archive.run(), 2);
        Check.same("series", Check.all(archive), "1 3||||2|2");
        Check.same("the saved copy", archive.restore(), 2);
        Check.same("series", Check.all(archive), "1 2||||2|0");
    }

    private static void save() {
        Check.promise(60);
        SeriesArchive archive = new SeriesArchive();
        Check.same("nothing", archive.save(), 0);
        Check.fill(archive, 0, 1, 2);
        Check.fill(archive, 3, 3);
        Check.same("three values", archive.save(), 3);
        Check.same("no change", archive.undoableCount(), 3);
        archive.shift(0, 1);
        archive.append(1, 5);
        archive.removeFirst(3, 1);
        Check.same("three other values", archive.restore(), 3);
        Check.same("the later copy", Check.all(archive), "1 2|||3|3|0");
        SeriesArchive full = new SeriesArchive();
        for (int slot = 0; slot < 4; slot++) {
            Check.fill(full, slot, Check.upTo(19));
        }
        Check.same("full", full.save(), 80);
        for (int slot = 0; slot < 4; slot++) {
            full.removeFirst(slot, 20);
        }
        Check.same("full again", full.restore(), 80);
        for (int slot = 0; slot < 4; slot++) {
            Check.same("last of " + slot, full.value(slot, 19), 19);
        }
    }

    private static void restore() {
        Check.promise(61);
        SeriesArchive archive = Check.archive(1, 2);
        Check.raisesState("no saved copy", archive::restore);
        Check.same("unchanged", Check.all(archive), "1 2||||2|2");
        archive.save();
        archive.copy(2, 0);
        archive.append(0, 3);
        Check.same("values", archive.restore(), 2);
        Check.same("everything", Check.all(archive), "1 2||||2|0");
        Check.raisesState("nothing to undo", archive::undo);
        archive.reverse(0);
        Check.same("once more", archive.restore(), 2);
        Check.same("everything", Check.all(archive), "1 2||||2|0");
        archive.append(0, 3);
        Check.same("a change after it", archive.undo(), 0);
        Check.same("everything", Check.all(archive), "1 2||||2|0");
        archive.append(0, 3);
        archive.formatSeries(0);
        Check.type(archive, "turn 0");
        archive.restore();
        Check.same("line", Check.line(archive, 5), "1 2 3");
        Check.same("input buffer", archive.run(), 1);
        Check.same("turned", Check.series(archive, 0), "2 1");
        SeriesArchive emptied = new SeriesArchive();
        emptied.save();
        Check.fill(emptied, 0, 1);
        Check.same("to nothing", emptied.restore(), 0);
        Check.same("everything", Check.all(emptied), "||||0|0");
    }
}
