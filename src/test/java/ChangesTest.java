/** Promises 1 to 10: a new object and the changes. */
final class ChangesTest {
    private ChangesTest() {
    }

    static void test() {
        newObject();
        append();
        setValue();
        removeFirst();
        copy();
        reverse();
        shift();
        smooth();
        toSteps();
        clip();
        failuresChangeNothing();
    }

    private static void newObject() {
        Check.promise(1);
        SeriesArchive archive = new SeriesArchive();
        for (int slot = 0; slot < 4; slot++) {
            Check.same("length of " + slot, archive.length(slot), 0);
        }
        Check.same("everything", Check.all(archive), "||||0|0");
        Check.fill(archive, 0, 5);
        Check.same("another new one", Check.all(new SeriesArchive()), "||||0|0");
    }

    private static void append() {
        Check.promise(2);
        SeriesArchive archive = new SeriesArchive();
        Check.same("least", archive.append(0, -99), 1);
        Check.same("greatest", archive.append(0, 99), 2);
        Check.same("last slot", archive.append(3, 7), 1);
        Check.same("everything", Check.all(archive), "-99 99|||7|3|3");
        for (int i = 2; i < 20; i++) {
            Check.same("value " + i, archive.append(0, i), i + 1);
        }
        Check.same("full", archive.value(0, 19), 19);
        for (int slot : Check.NO_SLOTS) {
            Check.raisesIndex("slot " + slot, () -> archive.append(slot, 100));
        }
        for (int value : new int[] {-100, 100, Integer.MIN_VALUE, Integer.MAX_VALUE}) {
            Check.raisesArgument("value and full", () -> archive.append(0, value));
            Check.raisesArgument("value", () -> archive.append(1, value));
        }
        Check.raisesState("full", () -> archive.append(0, 1));
        Check.same("length", archive.length(0), 20);
        Check.same("other series", archive.append(1, 0), 1);
    }

    private static void setValue() {
        Check.promise(3);
        SeriesArchive archive = Check.archive(Check.upTo(19));
        Check.same("first", archive.setValue(0, 0, -99), 0);
        Check.same("last", archive.setValue(0, 19, 99), 19);
        Check.same("again", archive.setValue(0, 19, 98), 99);
        Check.same("series", Check.series(archive, 0), "-99 1 2 3 4 5 6 7 8 9 10 11 12 13 14 15 16 17 18 98");
        for (int slot : Check.NO_SLOTS) {
            Check.raisesIndex("slot " + slot, () -> archive.setValue(slot, 0, 100));
        }
        for (int index : new int[] {-1, 20, Integer.MIN_VALUE, Integer.MAX_VALUE}) {
            Check.raisesIndex("index " + index, () -> archive.setValue(0, index, 100));
        }
        Check.raisesIndex("empty", () -> archive.setValue(1, 0, 1));
        Check.raisesArgument("too small", () -> archive.setValue(0, 0, -100));
        Check.raisesArgument("too great", () -> archive.setValue(0, 0, 100));
    }

    private static void removeFirst() {
        Check.promise(4);
        SeriesArchive archive = Check.archive(5, 6, 7, 8);
        Check.same("one", archive.removeFirst(0, 1), 3);
        Check.same("series", Check.series(archive, 0), "6 7 8");
        Check.raisesArgument("none", () -> archive.removeFirst(0, 0));
        Check.raisesArgument("negative", () -> archive.removeFirst(0, -1));
        Check.raisesArgument("too many", () -> archive.removeFirst(0, 4));
        Check.raisesArgument("far too many", () -> archive.removeFirst(0, Integer.MAX_VALUE));
        Check.raisesArgument("far too few", () -> archive.removeFirst(0, Integer.MIN_VALUE));
        for (int slot : Check.NO_SLOTS) {
            Check.raisesIndex("slot " + slot, () -> archive.removeFirst(slot, 0));
        }
        Check.same("two", archive.removeFirst(0, 2), 1);
        Check.same("series", Check.series(archive, 0), "8");
        Check.same("all", archive.removeFirst(0, 1), 0);
        Check.raisesArgument("empty", () -> archive.removeFirst(0, 1));
        SeriesArchive full = Check.archive(Check.upTo(19));
        Check.same("19 of 20", full.removeFirst(0, 19), 1);
        Check.same("the last", full.value(0, 0), 19);
        Check.fill(full, 3, Check.upTo(19));
        Check.same("20 of 20", full.removeFirst(3, 20), 0);
    }

    private static void copy() {
        Check.promise(5);
        SeriesArchive archive = Check.archive(1, 2, 3);
        Check.fill(archive, 3, 9, 8, 7, 6);
        Check.same("longer", archive.copy(0, 3), 4);
        Check.same("series", Check.series(archive, 0), "9 8 7 6");
        archive.setValue(3, 0, 1);
        Check.same("a copy stands apart", archive.value(0, 0), 9);
        Check.same("empty", archive.copy(3, 2), 0);
        Check.same("series", Check.series(archive, 3), "");
        Check.same("itself", archive.copy(0, 0), 4);
        Check.same("series", Check.series(archive, 0), "9 8 7 6");
        Check.same("appended", archive.appendedTotal(), 7);
        for (int slot : Check.NO_SLOTS) {
            Check.raisesIndex("slot " + slot, () -> archive.copy(slot, 0));
            Check.raisesIndex("from " + slot, () -> archive.copy(0, slot));
        }
    }

    private static void reverse() {
        Check.promise(6);
        SeriesArchive archive = Check.archive(1, 2, 3, 2, 5);
        Check.same("two change", archive.reverse(0), 2);
        Check.same("series", Check.series(archive, 0), "5 2 3 2 1");
        archive.append(0, 9);
        Check.same("six change", archive.reverse(0), 6);
        Check.same("series", Check.series(archive, 0), "9 1 2 3 2 5");
        Check.same("empty", archive.reverse(3), 0);
        Check.fill(archive, 2, 4);
        Check.same("one value", archive.reverse(2), 0);
        Check.fill(archive, 1, Check.upTo(19));
        Check.same("full", archive.reverse(1), 20);
        Check.same("first", archive.value(1, 0), 19);
        for (int slot : Check.NO_SLOTS) {
            Check.raisesIndex("slot " + slot, () -> archive.reverse(slot));
        }
    }

    private static void shift() {
        Check.promise(7);
        SeriesArchive archive = Check.archive(0, -9, 5);
        Check.same("up", archive.shift(0, 94), 278);
        Check.same("series", Check.series(archive, 0), "94 85 99");
        Check.raisesState("one more", () -> archive.shift(0, 1));
        Check.same("down", archive.shift(0, -99), -19);
        Check.same("series", Check.series(archive, 0), "-5 -14 0");
        Check.same("to the least", archive.shift(0, -85), -274);
        Check.raisesState("one less", () -> archive.shift(0, -1));
        Check.same("by nothing", archive.shift(0, 0), -274);
        Check.same("empty", archive.shift(3, 99), 0);
        Check.raisesArgument("empty and too great", () -> archive.shift(3, 100));
        Check.raisesArgument("too great and impossible", () -> archive.shift(0, -100));
        Check.raisesArgument("far too great", () -> archive.shift(0, Integer.MAX_VALUE));
        for (int slot : Check.NO_SLOTS) {
            Check.raisesIndex("slot " + slot, () -> archive.shift(slot, 100));
        }
        Check.same("series", Check.series(archive, 0), "-90 -99 -85");
        SeriesArchive lastOnly = Check.archive(0, 0, 99);
        Check.raisesState("last value", () -> lastOnly.shift(0, 1));
        Check.same("none of them", Check.series(lastOnly, 0), "0 0 99");
    }

    private static void smooth() {
        Check.promise(8);
        SeriesArchive archive = Check.archive(10, 0, 10, 50, 51);
        Check.same("width 1", archive.smooth(0, 1), 5);
        Check.same("series", Check.series(archive, 0), "5 6 20 37 50");
        Check.fill(archive, 1, -1, 0, -3, 0);
        Check.same("rounded down", archive.smooth(1, 1), 3);
        Check.same("series", Check.series(archive, 1), "-1 -2 -1 -2");
        Check.fill(archive, 2, Check.upTo(19));
        Check.same("width 9", archive.smooth(2, 9), 17);
        Check.same("series", Check.series(archive, 2),
                "4 5 5 6 6 7 7 8 8 9 10 10 11 11 12 12 13 13 14 14");
        Check.same("empty", archive.smooth(3, 9), 0);
        archive.append(3, -99);
        Check.same("one value", archive.smooth(3, 1), 0);
        Check.raisesArgument("width 0", () -> archive.smooth(3, 0));
        Check.raisesArgument("width 10", () -> archive.smooth(3, 10));
        Check.raisesArgument("negative width", () -> archive.smooth(3, Integer.MIN_VALUE));
        for (int slot : Check.NO_SLOTS) {
            Check.raisesIndex("slot " + slot, () -> archive.smooth(slot, 0));
        }
    }

    private static void toSteps() {
        Check.promise(9);
        SeriesArchive archive = Check.archive(3, 10, 10, -5);
        Check.same("steps", archive.toSteps(0), 3);
        Check.same("series", Check.series(archive, 0), "7 0 -15");
        Check.same("steps of steps", archive.toSteps(0), 2);
        Check.same("series", Check.series(archive, 0), "-7 -15");
        Check.fill(archive, 1, 4);
        Check.same("one value", archive.toSteps(1), 0);
        Check.raisesState("empty", () -> archive.toSteps(1));
        Check.fill(archive, 2, -50, 49, -50);
        Check.same("greatest and least step", archive.toSteps(2), 2);
        Check.same("series", Check.series(archive, 2), "99 -99");
        Check.raisesState("too far down", () -> archive.toSteps(2));
        Check.fill(archive, 3, 0, 0, -50, 50);
        Check.raisesState("too far up", () -> archive.toSteps(3));
        Check.same("series", Check.series(archive, 3), "0 0 -50 50");
        for (int slot : Check.NO_SLOTS) {
            Check.raisesIndex("slot " + slot, () -> archive.toSteps(slot));
        }
        Check.same("full", Check.archive(Check.upTo(19)).toSteps(0), 19);
    }

    private static void clip() {
        Check.promise(10);
        SeriesArchive archive = Check.archive(-99, -3, 0, 3, 99);
        Check.same("no change", archive.clip(0, -99, 99), 0);
        Check.same("both ends", archive.clip(0, -3, 3), 2);
        Check.same("series", Check.series(archive, 0), "-3 -3 0 3 3");
        Check.same("one bound", archive.clip(0, 1, 1), 5);
        Check.same("series", Check.series(archive, 0), "1 1 1 1 1");
        Check.same("empty", archive.clip(3, 0, 0), 0);
        Check.raisesArgument("low too small", () -> archive.clip(0, -100, 0));
        Check.raisesArgument("high too great", () -> archive.clip(0, 0, 100));
        Check.raisesArgument("low too great", () -> archive.clip(0, 100, 100));
        Check.raisesArgument("high too small", () -> archive.clip(0, -100, -100));
        Check.raisesArgument("wrong order", () -> archive.clip(3, 1, 0));
        for (int slot : Check.NO_SLOTS) {
            Check.raisesIndex("slot " + slot, () -> archive.clip(slot, 1, 0));
        }
    }

    private static void failuresChangeNothing() {
        SeriesArchive archive = Check.archive(Check.times(20, 99));
        Check.fill(archive, 1, -99, 99);
        String before = Check.all(archive);
        Check.promise(2);
        Check.raisesState("append", () -> archive.append(0, 1));
        Check.same("after append", Check.all(archive), before);
        Check.promise(3);
        Check.raisesArgument("setValue", () -> archive.setValue(0, 0, 100));
        Check.same("after setValue", Check.all(archive), before);
        Check.promise(4);
        Check.raisesArgument("removeFirst", () -> archive.removeFirst(1, 3));
        Check.same("after removeFirst", Check.all(archive), before);
        Check.promise(5);
        Check.raisesIndex("copy", () -> archive.copy(0, 4));
        Check.same("after copy", Check.all(archive), before);
        Check.promise(7);
        Check.raisesState("shift", () -> archive.shift(1, 1));
        Check.same("after shift", Check.all(archive), before);
        Check.promise(8);
        Check.raisesArgument("smooth", () -> archive.smooth(1, 10));
        Check.same("after smooth", Check.all(archive), before);
        Check.promise(9);
        Check.raisesState("toSteps", () -> archive.toSteps(1));
        Check.same("after toSteps", Check.all(archive), before);
        Check.promise(10);
        Check.raisesArgument("clip", () -> archive.clip(1, 1, 0));
        Check.same("after clip", Check.all(archive), before);
    }
}
