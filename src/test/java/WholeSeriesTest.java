/** Promises 44 to 53: comparisons, totals, checks and the line. */
final class WholeSeriesTest {
    private interface OfTwo {
        boolean answer(SeriesArchive archive, int slot, int other);
    }

    private WholeSeriesTest() {
    }

    static void test() {
        areEqual();
        areParallel();
        isAscending();
        totals();
        positiveShare();
        isConsistent();
        formatSeries();
        formatRuns();
        lineChar();
    }

    private static boolean compare(OfTwo method, int[] one, int... other) {
        return method.answer(Check.archiveOfTwo(one, other), 0, 1);
    }

    private static void noSuchPair(OfTwo method) {
        SeriesArchive archive = Check.archive(1);
        for (int slot : Check.NO_SLOTS) {
            Check.raisesIndex("slot " + slot, () -> method.answer(archive, slot, 0));
            Check.raisesIndex("other " + slot, () -> method.answer(archive, 0, slot));
        }
    }

    private static void areEqual() {
        Check.promise(44);
        OfTwo method = SeriesArchive::areEqual;
        Check.same("equal", compare(method, Check.upTo(19), Check.upTo(19)), true);
        Check.same("empty ones", compare(method, new int[0]), true);
        Check.same("another last value", compare(method, new int[] {1, 2, 3}, 1, 2, 4), false);
        Check.same("another first value", compare(method, new int[] {1, 2, 3}, 0, 2, 3), false);
        Check.same("parallel", compare(method, new int[] {1, 2, 3}, 2, 3, 4), false);
        Check.same("shorter", compare(method, new int[] {1, 2, 3}, 1, 2), false);
        Check.same("empty and not", compare(method, new int[0], 0), false);
        Check.same("another order", compare(method, new int[] {1, 2}, 2, 1), false);
        Check.same("itself", Check.archive(1, 2).areEqual(0, 0), true);
        noSuchPair(method);
    }

    private static void areParallel() {
        Check.promise(45);
        OfTwo method = SeriesArchive::areParallel;
        Check.same("parallel", compare(method, new int[] {-99, 0, 99}, -99, 0, 99), true);
        Check.same("apart", compare(method, new int[] {1, 5, 3}, -2, 2, 0), true);
        Check.same("one value", compare(method, new int[] {-99}, 99), true);
        Check.same("empty ones", compare(method, new int[0]), true);
        Check.same("last one differs", compare(method, new int[] {1, 5, 3}, 2, 6, 5), false);
        Check.same("same distance", compare(method, new int[] {0, 0}, 1, -1), false);
        Check.same("longer", compare(method, new int[] {1, 2}, 1, 2, 3), false);
        Check.same("empty and not", compare(method, new int[] {1}), false);
        Check.same("itself", Check.archive(1, 2).areParallel(0, 0), true);
        noSuchPair(method);
    }

    private static void isAscending() {
        Check.promise(46);
        Check.same("rising", Check.archive(Check.upTo(19)).isAscending(0), true);
        Check.same("equal", Check.archive(Check.times(20, 4)).isAscending(0), true);
        Check.same("empty", Check.archive().isAscending(3), true);
        Check.same("one value", Check.archive(-99).isAscending(0), true);
        Check.same("falls at last", Check.archive(1, 2, 3, 2).isAscending(0), false);
        Check.same("falls at first", Check.archive(1, 0, 3, 4).isAscending(0), false);
        for (int slot : Check.NO_SLOTS) {
            Check.raisesIndex("slot " + slot, () -> Check.archive(1).isAscending(slot));
        }
    }

    private static void totals() {
        SeriesArchive archive = new SeriesArchive();
        Check.promise(47);
        Check.same("nothing", archive.valueTotal(), 0);
        for (int slot = 0; slot < 4; slot++) {
            Check.fill(archive, slot, Check.upTo(19));
        }
        Check.same("full", archive.valueTotal(), 80);
        Check.promise(48);
        Check.same("nothing", new SeriesArchive().appendedTotal(), 0);
        Check.same("full", archive.appendedTotal(), 80);
        Check.raisesState("full", () -> archive.append(0, 1));
        Check.same("refused", archive.appendedTotal(), 80);
        archive.removeFirst(0, 5);
        archive.copy(1, 0);
        Check.same("appended", archive.appendedTotal(), 80);
        archive.append(0, 1);
        Check.same("one more", archive.appendedTotal(), 81);
        archive.undo();
        Check.same("undone", archive.appendedTotal(), 80);
        Check.run(archive, "put 0 1;put 0 2");
        Check.same("put", archive.appendedTotal(), 82);
        Check.raisesState("put", () -> Check.run(archive, "put 0 1;put 3 2"));
        Check.same("none put", archive.appendedTotal(), 82);
        archive.undo();
        Check.same("put undone", archive.appendedTotal(), 80);
        Check.promise(47);
        Check.same("all series", archive.valueTotal(), 70);
    }

    private static void positiveShare() {
        Check.promise(49);
        SeriesArchive archive = new SeriesArchive();
        Check.raisesArithmetic("nothing", archive::positiveShare);
        Check.fill(archive, 3, 0);
        Check.same("0 is not positive", archive.positiveShare(), 0.0f);
        Check.fill(archive, 0, 1, -1);
        Check.same("a third", archive.positiveShare(), 1.0f / 3.0f);
        Check.fill(archive, 1, 5);
        Check.fill(archive, 2, 5);
        Check.same("three fifths", archive.positiveShare(), 3.0f / 5.0f);
        Check.same("all", Check.archive(1).positiveShare(), 1.0f);
        SeriesArchive emptied = Check.archive(1);
        emptied.removeFirst(0, 1);
        Check.raisesArithmetic("emptied", emptied::positiveShare);
    }

    private static void isConsistent() {
        Check.promise(50);
        SeriesArchive archive = new SeriesArchive();
        Check.same("new", archive.isConsistent(), true);
        Check.fill(archive, 0, 3, -1, 4, -1, 5, -9, 2);
        Check.fill(archive, 1, Check.times(20, -99));
        Check.fill(archive, 3, Check.upTo(19));
        Check.same("filled", archive.isConsistent(), true);
        archive.reverse(3);
        archive.removeFirst(1, 19);
        Check.same("changed", archive.isConsistent(), true);
        Check.same("nothing changes", Check.all(archive),
                "3 -1 4 -1 5 -9 2|-99||19 18 17 16 15 14 13 12 11 10 9 8 7 6 5 4 3 2 1 0|47|8");
    }

    private static void formatSeries() {
        Check.promise(51);
        SeriesArchive archive = Check.archive(5, -3, 12);
        Check.same("length", archive.formatSeries(0), 7);
        Check.same("line", Check.line(archive, 7), "5 -3 12");
        Check.fill(archive, 3, Check.times(20, -99));
        Check.same("longest", archive.formatSeries(3), 79);
        Check.same("longest line", Check.line(archive, 79), "-99 ".repeat(19) + "-99");
        for (int slot : Check.NO_SLOTS) {
            Check.raisesIndex("slot " + slot, () -> archive.formatSeries(slot));
        }
        Check.same("line stays", Check.line(archive, 79), "-99 ".repeat(19) + "-99");
        Check.same("empty", archive.formatSeries(2), 0);
        Check.raisesIndex("empty line", () -> archive.lineChar(0));
        Check.fill(archive, 2, 0);
        Check.same("0", archive.formatSeries(2), 1);
        Check.same("line", Check.line(archive, 1), "0");
        Check.raisesIndex("no blank", () -> archive.lineChar(1));
    }

    private static void formatRuns() {
        Check.promise(52);
        SeriesArchive archive = Check.archive(5, 5, -3);
        Check.same("length", archive.formatRuns(0), 8);
        Check.same("line", Check.line(archive, 8), "5x2 -3x1");
        Check.fill(archive, 3, Check.times(20, -99));
        Check.same("one run", archive.formatRuns(3), 6);
        Check.same("line", Check.line(archive, 6), "-99x20");
        for (int i = 0; i < 20; i += 2) {
            archive.setValue(3, i, -98);
        }
        Check.same("longest", archive.formatRuns(3), 119);
        Check.same("longest line", Check.line(archive, 119), "-98x1 -99x1 ".repeat(10).trim());
        for (int slot : Check.NO_SLOTS) {
            Check.raisesIndex("slot " + slot, () -> archive.formatRuns(slot));
        }
        Check.same("line stays", Check.line(archive, 12), "-98x1 -99x1 ");
        Check.same("empty", archive.formatRuns(2), 0);
        Check.raisesIndex("empty line", () -> archive.lineChar(0));
        Check.fill(archive, 2, 1, 0, 0, 1);
        Check.same("length", archive.formatRuns(2), 11);
        Check.same("line", Check.line(archive, 11), "1x1 0x2 1x1");
    }

    private static void lineChar() {
        Check.promise(53);
        SeriesArchive archive = Check.archive(5, -3, 12);
        Check.raisesIndex("empty at first", () -> archive.lineChar(0));
        archive.formatSeries(0);
        Check.same("first", archive.lineChar(0), '5');
        Check.same("blank", archive.lineChar(1), ' ');
        Check.same("minus", archive.lineChar(2), '-');
        Check.same("last", archive.lineChar(6), '2');
        Check.raisesIndex("after the last", () -> archive.lineChar(7));
        Check.raisesIndex("negative", () -> archive.lineChar(-1));
        Check.raisesIndex("far away", () -> archive.lineChar(Integer.MAX_VALUE));
        archive.setValue(0, 0, 9);
        archive.undo();
        Check.same("stays", archive.lineChar(0), '5');
        archive.formatRuns(0);
        Check.same("replaced", archive.lineChar(1), 'x');
    }
}
