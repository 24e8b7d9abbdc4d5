/** Promises 24 to 28: peaks and prominences. */
final class PeaksTest {
    private static final int[] PI = {3, -1, 4, -1, 5, -9, 2};

    private interface OfIndex {
        int answer(SeriesArchive archive, int slot, int index);
    }

    private PeaksTest() {
    }

    static void test() {
        peakCount();
        isPeak();
        prominence(26, SeriesArchive::prominence);
        prominence(27, SeriesArchive::prominenceByLevels);
        peakByProminence();
    }

    private static void peakCount() {
        Check.promise(24);
        Check.same("pi", Check.archive(PI).peakCount(0), 4);
        Check.same("empty", Check.archive().peakCount(3), 0);
        Check.same("one value", Check.archive(-99).peakCount(0), 1);
        Check.same("two equal ones", Check.archive(1, 1).peakCount(0), 0);
        Check.same("a plateau", Check.archive(1, 3, 3, 2).peakCount(0), 0);
        Check.same("ascending", Check.archive(Check.upTo(19)).peakCount(0), 1);
        int[] saw = Check.times(20, 0);
        for (int i = 0; i < 20; i += 2) {
            saw[i] = 99;
        }
        Check.same("saw", Check.archive(saw).peakCount(0), 10);
        for (int slot : Check.NO_SLOTS) {
            Check.raisesIndex("slot " + slot, () -> Check.archive(1).peakCount(slot));
        }
    }

    private static void isPeak() {
        Check.promise(25);
        SeriesArchive archive = Check.archive(PI);
        for (int i = 0; i < 7; i++) {
            Check.same("index " + i, archive.isPeak(0, i), i % 2 == 0);
        }
        Check.fill(archive, 3, 4);
        Check.same("one value", archive.isPeak(3, 0), true);
        Check.fill(archive, 1, 5, 5, 6, 6, 5, 7);
        Check.same("equal to the next", archive.isPeak(1, 0), false);
        Check.same("equal to the one before", archive.isPeak(1, 3), false);
        Check.same("equal to the next one, inside", archive.isPeak(1, 2), false);
        Check.same("last", archive.isPeak(1, 5), true);
        Check.same("before the last", archive.isPeak(1, 4), false);
        Check.raisesIndex("after the last", () -> archive.isPeak(1, 6));
        Check.raisesIndex("negative", () -> archive.isPeak(1, -1));
        Check.raisesIndex("empty", () -> archive.isPeak(2, 0));
        for (int slot : Check.NO_SLOTS) {
            Check.raisesIndex("slot " + slot, () -> archive.isPeak(slot, 0));
        }
    }

    private static void prominence(int promise, OfIndex method) {
        Check.promise(promise);
        SeriesArchive archive = Check.archive(PI);
        Check.same("first", method.answer(archive, 0, 0), 4);
        Check.same("third", method.answer(archive, 0, 2), 5);
        Check.same("fifth", method.answer(archive, 0, 4), 6);
        Check.same("last", method.answer(archive, 0, 6), 11);
        Check.raisesNoElement("no peak", () -> method.answer(archive, 0, 1));
        Check.raisesIndex("after the last", () -> method.answer(archive, 0, 7));
        Check.raisesIndex("negative", () -> method.answer(archive, 0, -1));
        Check.raisesIndex("empty", () -> method.answer(archive, 2, 0));
        for (int slot : Check.NO_SLOTS) {
            Check.raisesIndex("slot " + slot, () -> method.answer(archive, slot, 1));
        }
        Check.fill(archive, 1, 7);
        Check.same("one value", method.answer(archive, 1, 0), 0);
        Check.fill(archive, 2, 5, 5, 5, 6, 5, 5);
        Check.same("between equal ones", method.answer(archive, 2, 3), 1);
        Check.fill(archive, 3, 99, -99, 99, -99, 99);
        Check.same("passes equal peaks", method.answer(archive, 3, 2), 198);
        Check.same("passes equal peaks from the first", method.answer(archive, 3, 0), 198);
        Check.same("a lower end", method.answer(Check.archive(1, 9, 5, 7, 0), 0, 3), 2);
        Check.same("the greatest", method.answer(Check.archive(1, 9, 5, 7, 0), 0, 1), 8);
        Check.same("greater on one side", method.answer(Check.archive(9, 2, 5, 3, 4), 0, 2), 2);
        Check.same("far away", method.answer(Check.archive(-4, 3, 0, 8, 1, 2, -7, 9), 0, 3), 12);
    }

    private static void peakByProminence() {
        Check.promise(28);
        SeriesArchive archive = Check.archive(PI);
        int[] due = {6, 4, 2, 0};
        for (int i = 0; i < due.length; i++) {
            Check.same("rank " + i, archive.peakByProminence(0, i), due[i]);
        }
        Check.raisesNoElement("rank 4", () -> archive.peakByProminence(0, 4));
        Check.raisesNoElement("rank -1", () -> archive.peakByProminence(0, -1));
        Check.raisesNoElement("far away", () -> archive.peakByProminence(0, Integer.MAX_VALUE));
        Check.raisesNoElement("empty", () -> archive.peakByProminence(3, 0));
        for (int slot : Check.NO_SLOTS) {
            Check.raisesIndex("slot " + slot, () -> archive.peakByProminence(slot, -1));
        }
        Check.fill(archive, 1, 0, 5, 0, 7, 0, 5, 0);
        Check.same("greatest", archive.peakByProminence(1, 0), 3);
        Check.same("lower index of equal ones", archive.peakByProminence(1, 1), 1);
        Check.same("higher index of equal ones", archive.peakByProminence(1, 2), 5);
        Check.fill(archive, 2, 42);
        Check.same("one value", archive.peakByProminence(2, 0), 0);
    }
}
