/** Promises 11 to 23 and 29 to 34: values, ranges, windows, next greater values, best ranges, inversions. */
final class RangesTest {
    private static final int[] PI = {3, -1, 4, -1, 5, -9, 2};

    private interface OfRange {
        int answer(SeriesArchive archive, int slot, int from, int to);
    }

    private interface OfIndex {
        int answer(SeriesArchive archive, int slot, int index);
    }

    private interface OfSlot {
        int answer(SeriesArchive archive, int slot);
    }

    private RangesTest() {
    }

    static void test() {
        lengthAndValue();
        sums();
        minimumAndMaximum();
        countAbove();
        valueByRank();
        mean();
        windows(20, SeriesArchive::windowMaximum);
        windows(21, SeriesArchive::windowMaximumByScan);
        nextGreater(22, SeriesArchive::nextGreater);
        nextGreater(23, SeriesArchive::nextGreaterByScan);
        bestSum(29, SeriesArchive::bestSum);
        bestSum(30, SeriesArchive::bestSumByRanges);
        bestRange();
        inversions(33, SeriesArchive::inversions);
        inversions(34, SeriesArchive::inversionsByPairs);
    }

    private static void lengthAndValue() {
        SeriesArchive archive = Check.archive(Check.upTo(19));
        Check.fill(archive, 3, -99);
        Check.promise(11);
        Check.same("full", archive.length(0), 20);
        Check.same("empty", archive.length(1), 0);
        Check.same("one value", archive.length(3), 1);
        for (int slot : Check.NO_SLOTS) {
            Check.raisesIndex("slot " + slot, () -> archive.length(slot));
        }
        Check.promise(12);
        Check.same("first", archive.value(0, 0), 0);
        Check.same("last", archive.value(0, 19), 19);
        Check.same("least", archive.value(3, 0), -99);
        Check.raisesIndex("after the last", () -> archive.value(0, 20));
        Check.raisesIndex("negative", () -> archive.value(0, -1));
        Check.raisesIndex("far away", () -> archive.value(3, Integer.MAX_VALUE));
        Check.raisesIndex("empty", () -> archive.value(2, 0));
        for (int slot : Check.NO_SLOTS) {
            Check.raisesIndex("slot " + slot, () -> archive.value(slot, 0));
        }
        archive.removeFirst(0, 19);
        Check.raisesIndex("removed", () -> archive.value(0, 1));
    }

    private static void noSuchRange(OfRange method) {
        SeriesArchive archive = Check.archive(1, 2, 3);
        for (int slot : Check.NO_SLOTS) {
            Check.raisesIndex("slot " + slot, () -> method.answer(archive, slot, 0, 0));
        }
        int[][] ranges = {{-1, 0}, {0, 3}, {3, 3}, {2, 1}, {-1, 3}, {Integer.MIN_VALUE, Integer.MAX_VALUE},
            {0, Integer.MAX_VALUE}, {Integer.MIN_VALUE, 2}};
        for (int[] range : ranges) {
            Check.raisesIndex("range " + range[0] + " to " + range[1],
                    () -> method.answer(archive, 0, range[0], range[1]));
        }
        Check.raisesIndex("empty", () -> method.answer(archive, 3, 0, 0));
    }

    private static void sums() {
        sum(13, SeriesArchive::sum);
        sum(14, SeriesArchive::sumByTree);
    }

    private static void sum(int promise, OfRange method) {
        Check.promise(promise);
        SeriesArchive archive = Check.archive(PI);
        Check.same("1 to 4", method.answer(archive, 0, 1, 4), 7);
        Check.same("all", method.answer(archive, 0, 0, 6), 3);
        Check.same("first", method.answer(archive, 0, 0, 0), 3);
        Check.same("last", method.answer(archive, 0, 6, 6), 2);
        Check.fill(archive, 3, Check.times(20, -99));
        Check.same("full", method.answer(archive, 3, 0, 19), -1980);
        Check.fill(archive, 1, Check.upTo(19));
        for (int from = 0; from < 20; from++) {
            for (int to = from; to < 20; to++) {
                int due = (from + to) * (to - from + 1) / 2;
                Check.same(from + " to " + to, method.answer(archive, 1, from, to), due);
            }
        }
        noSuchRange(method);
    }

    private static void minimumAndMaximum() {
        SeriesArchive archive = Check.archive(PI);
        Check.fill(archive, 3, 99, -99);
        Check.promise(15);
        Check.same("least of 0 to 4", archive.minimum(0, 0, 4), -1);
        Check.same("least of all", archive.minimum(0, 0, 6), -9);
        Check.same("least of the last", archive.minimum(0, 6, 6), 2);
        Check.same("least of the first", archive.minimum(0, 0, 0), 3);
        Check.same("least of 4 to 5", archive.minimum(0, 4, 5), -9);
        Check.same("least value", archive.minimum(3, 0, 1), -99);
        noSuchRange(SeriesArchive::minimum);
        Check.promise(16);
        Check.same("greatest of 0 to 3", archive.maximum(0, 0, 3), 4);
        Check.same("greatest of all", archive.maximum(0, 0, 6), 5);
        Check.same("greatest of the last two", archive.maximum(0, 5, 6), 2);
        Check.same("greatest of the first", archive.maximum(0, 0, 0), 3);
        Check.same("greatest of the sixth", archive.maximum(0, 5, 5), -9);
        Check.same("greatest value", archive.maximum(3, 0, 1), 99);
        noSuchRange(SeriesArchive::maximum);
    }

    private static void countAbove() {
        Check.promise(17);
        SeriesArchive archive = Check.archive(PI);
        Check.same("above 0", archive.countAbove(0, 0), 4);
        Check.same("above -1", archive.countAbove(0, -1), 4);
        Check.same("above -2", archive.countAbove(0, -2), 6);
        Check.same("above the least number", archive.countAbove(0, Integer.MIN_VALUE), 7);
        Check.same("above the greatest number", archive.countAbove(0, Integer.MAX_VALUE), 0);
        Check.same("empty", archive.countAbove(3, -100), 0);
        for (int slot : Check.NO_SLOTS) {
            Check.raisesIndex("slot " + slot, () -> archive.countAbove(slot, 0));
        }
    }

    private static void valueByRank() {
        Check.promise(18);
        SeriesArchive archive = Check.archive(PI);
        int[] sorted = {-9, -1, -1, 2, 3, 4, 5};
        for (int rank = 0; rank < 7; rank++) {
            Check.same("rank " + rank, archive.valueByRank(0, rank), sorted[rank]);
        }
        Check.raisesNoElement("rank 7", () -> archive.valueByRank(0, 7));
        Check.raisesNoElement("rank -1", () -> archive.valueByRank(0, -1));
        Check.raisesNoElement("empty", () -> archive.valueByRank(3, 0));
        for (int slot : Check.NO_SLOTS) {
            Check.raisesIndex("slot " + slot, () -> archive.valueByRank(slot, -1));
        }
        Check.fill(archive, 3, Check.times(20, 99));
        Check.same("last rank of a full series", archive.valueByRank(3, 19), 99);
        Check.raisesNoElement("rank 20", () -> archive.valueByRank(3, 20));
    }

    private static void mean() {
        Check.promise(19);
        SeriesArchive archive = Check.archive(PI);
        Check.same("mean", archive.mean(0), 3.0 / 7.0);
        Check.fill(archive, 3, -99);
        Check.same("one value", archive.mean(3), -99.0);
        Check.fill(archive, 1, Check.upTo(19));
        Check.same("full", archive.mean(1), 9.5);
        Check.raisesArithmetic("empty", () -> archive.mean(2));
        for (int slot : Check.NO_SLOTS) {
            Check.raisesIndex("slot " + slot, () -> archive.mean(slot));
        }
    }

    private static void windows(int promise, OfRange method) {
        Check.promise(promise);
        SeriesArchive archive = Check.archive(PI);
        Check.same("width 3 at 3", method.answer(archive, 0, 3, 3), 4);
        Check.same("width 3 at 2", method.answer(archive, 0, 3, 2), 4);
        Check.same("width 3 at 6", method.answer(archive, 0, 3, 6), 5);
        Check.same("width 2 at 6", method.answer(archive, 0, 2, 6), 2);
        Check.same("width 1 at 5", method.answer(archive, 0, 1, 5), -9);
        Check.same("width 1 at 0", method.answer(archive, 0, 1, 0), 3);
        Check.same("width 7 at 6", method.answer(archive, 0, 7, 6), 5);
        Check.raisesNoElement("width 4 at 2", () -> method.answer(archive, 0, 4, 2));
        Check.raisesNoElement("width 7 at 5", () -> method.answer(archive, 0, 7, 5));
        Check.raisesArgument("width 0", () -> method.answer(archive, 0, 0, 0));
        Check.raisesArgument("width 8", () -> method.answer(archive, 0, 8, 6));
        Check.raisesArgument("width -1", () -> method.answer(archive, 0, -1, 6));
        Check.raisesArgument("far too wide", () -> method.answer(archive, 0, Integer.MAX_VALUE, 6));
        Check.raisesArgument("far too narrow", () -> method.answer(archive, 0, Integer.MIN_VALUE, 6));
        Check.raisesIndex("index 7", () -> method.answer(archive, 0, 0, 7));
        Check.raisesIndex("index -1", () -> method.answer(archive, 0, 8, -1));
        Check.raisesIndex("empty", () -> method.answer(archive, 3, 1, 0));
        for (int slot : Check.NO_SLOTS) {
            Check.raisesIndex("slot " + slot, () -> method.answer(archive, slot, 0, 0));
        }
        Check.fill(archive, 3, Check.upTo(19));
        Check.same("full, widest", method.answer(archive, 3, 20, 19), 19);
        Check.same("full, rising", method.answer(archive, 3, 5, 11), 11);
        archive.reverse(3);
        Check.same("full, widest, falling", method.answer(archive, 3, 20, 19), 19);
        Check.same("full, falling", method.answer(archive, 3, 5, 11), 12);
    }

    private static void nextGreater(int promise, OfIndex method) {
        Check.promise(promise);
        SeriesArchive archive = Check.archive(PI);
        int[] due = {2, 2, 4, 4, -1, 6, -1};
        for (int i = 0; i < due.length; i++) {
            int index = i;
            if (due[i] < 0) {
                Check.raisesNoElement("index " + i, () -> method.answer(archive, 0, index));
            } else {
                Check.same("index " + i, method.answer(archive, 0, i), due[i]);
            }
        }
        Check.fill(archive, 1, 5, 5, 5, 6, 5, 5);
        Check.same("equal ones do not count", method.answer(archive, 1, 0), 3);
        Check.raisesNoElement("equal ones behind", () -> method.answer(archive, 1, 4));
        Check.fill(archive, 3, Check.upTo(19));
        Check.same("last step", method.answer(archive, 3, 18), 19);
        Check.raisesNoElement("last index", () -> method.answer(archive, 3, 19));
        Check.raisesIndex("after the last", () -> method.answer(archive, 3, 20));
        Check.raisesIndex("negative", () -> method.answer(archive, 3, -1));
        Check.raisesIndex("empty", () -> method.answer(archive, 2, 0));
        for (int slot : Check.NO_SLOTS) {
            Check.raisesIndex("slot " + slot, () -> method.answer(archive, slot, 0));
        }
    }

    private static void notEmpty(OfSlot method) {
        SeriesArchive archive = Check.archive(1);
        Check.raisesState("empty", () -> method.answer(archive, 3));
        for (int slot : Check.NO_SLOTS) {
            Check.raisesIndex("slot " + slot, () -> method.answer(archive, slot));
        }
    }

    private static void bestSum(int promise, OfSlot method) {
        Check.promise(promise);
        Check.same("pi", method.answer(Check.archive(PI), 0), 10);
        Check.same("all negative", method.answer(Check.archive(-5, -2, -7), 0), -2);
        Check.same("one value", method.answer(Check.archive(-99), 0), -99);
        Check.same("inside", method.answer(Check.archive(-5, 4, -1, 6, -20, 8), 0), 9);
        Check.same("full", method.answer(Check.archive(Check.times(20, 99)), 0), 1980);
        Check.same("at the end", method.answer(Check.archive(7, -20, 4, 4), 0), 8);
        notEmpty(method);
    }

    private static void bestRange() {
        range("pi", 0, 4, PI);
        range("one value", 0, 0, -99);
        range("the first of several", 0, 0, 5, -9, 5);
        range("the one that starts first", 0, 1, 0, 5, -5, 5, -10, 5);
        range("the shortest", 1, 1, -1, 5, 0, -5, 5);
        range("starts with 0", 0, 1, 0, 3);
        range("all 0", 0, 0, 0, 0, 0);
        range("all negative", 1, 1, -5, -2, -2);
        range("full", 0, 19, Check.times(20, 1));
        int[] lastOnly = Check.times(20, -1);
        lastOnly[19] = 3;
        range("last value", 19, 19, lastOnly);
        range("joined by 0", 0, 1, 2, 3, -5, 5, -5, 5);
        Check.promise(31);
        notEmpty(SeriesArchive::bestStart);
        Check.promise(32);
        notEmpty(SeriesArchive::bestEnd);
    }

    private static void range(String what, int start, int end, int... values) {
        SeriesArchive archive = Check.archive(values);
        Check.promise(31);
        Check.same(what, archive.bestStart(0), start);
        Check.promise(32);
        Check.same(what, archive.bestEnd(0), end);
    }

    private static void inversions(int promise, OfSlot method) {
        Check.promise(promise);
        Check.same("pi", method.answer(Check.archive(PI), 0), 11);
        Check.same("empty", method.answer(Check.archive(), 3), 0);
        Check.same("one value", method.answer(Check.archive(4), 0), 0);
        Check.same("ascending", method.answer(Check.archive(Check.upTo(19)), 0), 0);
        Check.same("equal", method.answer(Check.archive(Check.times(20, 5)), 0), 0);
        SeriesArchive archive = Check.archive(Check.upTo(19));
        archive.reverse(0);
        Check.same("descending", method.answer(archive, 0), 190);
        Check.same("the series stays", Check.series(archive, 0),
                "19 18 17 16 15 14 13 12 11 10 9 8 7 6 5 4 3 2 1 0");
        Check.same("with equal ones", method.answer(Check.archive(2, 1, 2, 1, 2), 0), 3);
        for (int slot : Check.NO_SLOTS) {
            Check.raisesIndex("slot " + slot, () -> method.answer(archive, slot));
        }
    }
}
