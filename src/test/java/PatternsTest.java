/** Promises 35 to 43: periods, occurrences, segments and distances. */
final class PatternsTest {
    private interface OfSlot {
        int answer(SeriesArchive archive, int slot);
    }

    private interface OfTwo {
        int answer(SeriesArchive archive, int slot, int other);
    }

    private PatternsTest() {
    }

    static void test() {
        period(35, SeriesArchive::leastPeriod);
        period(36, SeriesArchive::leastPeriodByTrial);
        occurrences(37, SeriesArchive::occurrences);
        occurrences(38, SeriesArchive::occurrencesByScan);
        error(39, SeriesArchive::leastError);
        error(40, SeriesArchive::leastErrorByCuts);
        segmentStart();
        distance(42, SeriesArchive::distance);
        distance(43, SeriesArchive::distanceByWalks);
    }

    private static void period(int promise, OfSlot method) {
        Check.promise(promise);
        Check.same("1 2 1 2 1", method.answer(Check.archive(1, 2, 1, 2, 1), 0), 2);
        Check.same("one value", method.answer(Check.archive(7), 0), 1);
        Check.same("equal", method.answer(Check.archive(Check.times(20, -99)), 0), 1);
        Check.same("none but all", method.answer(Check.archive(Check.upTo(19)), 0), 20);
        Check.same("5 5 5 6 5 5", method.answer(Check.archive(5, 5, 5, 6, 5, 5), 0), 4);
        Check.same("a border of a border", method.answer(Check.archive(1, 1, 2, 1, 1, 2, 1, 1, 1), 0), 7);
        Check.same("last value breaks it", method.answer(Check.archive(1, 2, 1, 2, 1, 2, 2), 0), 7);
        Check.same("0 at the end", method.answer(Check.archive(0, 5, 0, 0, 5, 0), 0), 3);
        Check.raisesState("empty", () -> method.answer(Check.archive(1), 3));
        for (int slot : Check.NO_SLOTS) {
            Check.raisesIndex("slot " + slot, () -> method.answer(Check.archive(1), slot));
        }
    }

    private static void occurrences(int promise, OfTwo method) {
        Check.promise(promise);
        Check.same("overlapping", places(method, new int[] {1, 2, 1, 2, 1}, 1, 2, 1), 2);
        Check.same("equal ones", places(method, Check.times(20, 3), 3, 3), 19);
        Check.same("one value", places(method, Check.times(20, 3), 3), 20);
        Check.same("at the ends", places(method, new int[] {4, 5, 1, 4, 5}, 4, 5), 2);
        Check.same("none", places(method, new int[] {4, 5, 1, 4, 5}, 5, 4), 0);
        Check.same("too long", places(method, new int[] {4, 5}, 4, 5, 6), 0);
        Check.same("whole", places(method, Check.upTo(19), Check.upTo(19)), 1);
        Check.same("in an empty one", places(method, new int[0], 1), 0);
        Check.same("after a false start", places(method, new int[] {1, 1, 1, 2, 1, 1, 2}, 1, 1, 2), 2);
        Check.same("zeros behind the pattern", places(method, new int[] {0, 0, 1, 0, 0}, 0, 0), 2);
        SeriesArchive archive = Check.archive(1, 2);
        Check.same("in itself", method.answer(archive, 0, 0), 1);
        Check.raisesState("empty pattern", () -> method.answer(archive, 0, 3));
        Check.raisesState("empty in empty", () -> method.answer(archive, 3, 3));
        for (int slot : Check.NO_SLOTS) {
            Check.raisesIndex("slot " + slot, () -> method.answer(archive, slot, 0));
            Check.raisesIndex("slot before empty", () -> method.answer(archive, slot, 3));
            Check.raisesIndex("other " + slot, () -> method.answer(archive, 0, slot));
        }
    }

    private static int places(OfTwo method, int[] series, int... pattern) {
        return method.answer(Check.archiveOfTwo(series, pattern), 0, 1);
    }

    private static void noSuchDivision(OfTwo method) {
        SeriesArchive archive = Check.archive(1, 2, 3);
        for (int parts : new int[] {0, 5, -1, Integer.MIN_VALUE, Integer.MAX_VALUE}) {
            Check.raisesArgument("parts " + parts, () -> method.answer(archive, 0, parts));
            Check.raisesArgument("parts of an empty one", () -> method.answer(archive, 3, parts));
        }
        Check.raisesState("too few values", () -> method.answer(archive, 0, 4));
        Check.raisesState("empty", () -> method.answer(archive, 3, 1));
        for (int slot : Check.NO_SLOTS) {
            Check.raisesIndex("slot " + slot, () -> method.answer(archive, slot, 0));
        }
    }

    private static void error(int promise, OfTwo method) {
        Check.promise(promise);
        SeriesArchive archive = Check.archive(10, 0, 10, 50, 51);
        int[] due = {51, 11, 10, 1};
        for (int parts = 1; parts <= 4; parts++) {
            Check.same("parts " + parts, method.answer(archive, 0, parts), due[parts - 1]);
        }
        Check.fill(archive, 1, 9, -9, 5, 0);
        Check.same("each value alone", method.answer(archive, 1, 4), 0);
        Check.fill(archive, 2, 3);
        Check.same("one value", method.answer(archive, 2, 1), 0);
        Check.raisesState("one value, two parts", () -> method.answer(archive, 2, 2));
        Check.fill(archive, 3, Check.upTo(19));
        int[] rising = {19, 18, 17, 16};
        for (int parts = 1; parts <= 4; parts++) {
            Check.same("rising, parts " + parts, method.answer(archive, 3, parts), rising[parts - 1]);
        }
        Check.same("from -99 to 99", method.answer(Check.archive(-99, 99, -99, 99), 0, 2), 198);
        noSuchDivision(method);
    }

    private static void starts(SeriesArchive archive, int slot, int... due) {
        for (int segment = 0; segment < due.length; segment++) {
            int start = archive.segmentStart(slot, due.length, segment);
            Check.same("segment " + segment + " of " + due.length + " in " + slot, start, due[segment]);
        }
    }

    private static void segmentStart() {
        Check.promise(41);
        SeriesArchive archive = Check.archive(10, 0, 10, 50, 51);
        starts(archive, 0, 0);
        starts(archive, 0, 0, 3);
        starts(archive, 0, 0, 3, 4);
        starts(archive, 0, 0, 1, 2, 3);
        Check.fill(archive, 1, 5, 5, 5, 5, 5);
        starts(archive, 1, 0, 1);
        starts(archive, 1, 0, 1, 2);
        starts(archive, 1, 0, 1, 2, 3);
        Check.fill(archive, 2, 1, 1, 9, 9, 5, 5, 5);
        starts(archive, 2, 0, 2, 4);
        starts(archive, 2, 0, 1, 2, 4);
        Check.fill(archive, 3, Check.upTo(19));
        archive.setValue(3, 19, 99);
        starts(archive, 3, 0, 19);
        starts(archive, 3, 0, 1, 2, 19);
        Check.raisesNoElement("segment 4", () -> archive.segmentStart(0, 4, 4));
        Check.raisesNoElement("segment 1 of 1", () -> archive.segmentStart(0, 1, 1));
        Check.raisesNoElement("negative segment", () -> archive.segmentStart(0, 4, -1));
        Check.raisesState("too few values", () -> Check.archive(1, 2).segmentStart(0, 3, 9));
        noSuchDivision((series, slot, parts) -> series.segmentStart(slot, parts, -1));
    }

    private static void distance(int promise, OfTwo method) {
        Check.promise(promise);
        Check.same("one by one", between(method, new int[] {5}, 9), 4);
        Check.same("one by many", between(method, new int[] {5}, 9, 5, 0), 9);
        Check.same("stretched", between(method, new int[] {1, 2, 3}, 1, 1, 2, 2, 2, 3), 0);
        Check.same("both at once", between(method, new int[] {0, 10, 0}, 0, 9, 0), 1);
        Check.same("only one of both", between(method, new int[] {0, 0, 10}, 0, 10, 10), 0);
        Check.same("farthest", between(method, Check.times(20, -99), Check.times(20, 99)), 20 * 198);
        Check.same("start and end count", between(method, new int[] {0, 5, 5}, 3, 5, 9), 7);
        SeriesArchive archive = Check.archive(-3, 8, 1, 0, 7);
        Check.same("to itself", method.answer(archive, 0, 0), 0);
        Check.fill(archive, 1, 4, 4, -2);
        Check.same("one way", method.answer(archive, 0, 1), 25);
        Check.same("the other way", method.answer(archive, 1, 0), 25);
        Check.fill(archive, 2, Check.upTo(19));
        Check.same("full ones", method.answer(archive, 2, 2), 0);
        Check.raisesState("first empty", () -> method.answer(archive, 3, 0));
        Check.raisesState("second empty", () -> method.answer(archive, 0, 3));
        Check.raisesState("both empty", () -> method.answer(archive, 3, 3));
        for (int slot : Check.NO_SLOTS) {
            Check.raisesIndex("slot " + slot, () -> method.answer(archive, slot, 3));
            Check.raisesIndex("empty and other " + slot, () -> method.answer(archive, 3, slot));
        }
    }

    private static int between(OfTwo method, int[] series, int... other) {
        return method.answer(Check.archiveOfTwo(series, other), 0, 1);
    }
}
