import java.util.NoSuchElementException;

/**
 * An archive of four series of numbers with two ways for many questions, a small command language,
 * undo and a saved copy. Every row is made in a constructor, so that calls make nearly no objects.
 */
public final class SeriesArchive {
    private static final int SLOTS = 4;
    private static final int CAPACITY = 20;
    private static final int LEAST_VALUE = -99;
    private static final int GREATEST_VALUE = 99;
    private static final int GREATEST_WIDTH = 9;
    private static final int GREATEST_PARTS = 4;
    private static final int INPUT_LIMIT = 60;
    private static final int UNDO_LIMIT = 8;
    /** A count and the values of each series, and the number of appended values. */
    private static final int STATE_SIZE = SLOTS * (CAPACITY + 1) + 1;
    private static final int NONE = -1;
    /** Above every error and every cost that a series can have. */
    private static final int FAR = 1000000;
    /** A walk through two full series has 39 pairs of values; a sort halves 20 values 5 times. */
    private static final int DEEPEST = 40;

    private final State state = new State();
    private final History history = new History();
    private final int[] saved = new int[STATE_SIZE];
    private boolean hasSaved;
    private final int[] beforeRun = new int[STATE_SIZE];
    private final Input input = new Input();
    private int storedErrorPosition = NONE;
    private int storedFailedCommand = NONE;
    private final StringBuilder line = new StringBuilder();
    private final Ranges ranges = new Ranges();
    private final Patterns patterns = new Patterns();
    private final Divisions divisions = new Divisions();
    private final Walks walks = new Walks();

    public SeriesArchive() {
    }

    // Changes

    public int append(int slot, int value)
            throws IndexOutOfBoundsException, IllegalArgumentException, IllegalStateException {
        return change(Kind.PUT, slot, value, 0);
    }

    public int setValue(int slot, int index, int value)
            throws IndexOutOfBoundsException, IllegalArgumentException {
        return change(Kind.SET, slot, index, value);
    }

    public int removeFirst(int slot, int count) throws IndexOutOfBoundsException, IllegalArgumentException {
        return change(Kind.CUT, slot, count, 0);
    }

    public int copy(int slot, int from) throws IndexOutOfBoundsException {
        return change(Kind.COPY, slot, from, 0);
    }

    public int reverse(int slot) throws IndexOutOfBoundsException {
        return change(Kind.TURN, slot, 0, 0);
    }

    public int shift(int slot, int amount)
            throws IndexOutOfBoundsException, IllegalArgumentException, IllegalStateException {
        return change(Kind.SHIFT, slot, amount, 0);
    }

    public int smooth(int slot, int width) throws IndexOutOfBoundsException, IllegalArgumentException {
        return change(Kind.SMOOTH, slot, width, 0);
    }

    public int toSteps(int slot) throws IndexOutOfBoundsException, IllegalStateException {
        return change(Kind.STEPS, slot, 0, 0);
    }

    public int clip(int slot, int low, int high) throws IndexOutOfBoundsException, IllegalArgumentException {
        return change(Kind.CLIP, slot, low, high);
    }

    // Values and ranges

    public int length(int slot) throws IndexOutOfBoundsException {
        return seriesIn(slot).size();
    }

    public int value(int slot, int index) throws IndexOutOfBoundsException {
        return seriesWith(slot, index).at(index);
    }

    public int sum(int slot, int from, int to) throws IndexOutOfBoundsException {
        return seriesWithRange(slot, from, to).total(from, to);
    }

    public int sumByTree(int slot, int from, int to) throws IndexOutOfBoundsException {
        return ranges.totalByTree(seriesWithRange(slot, from, to), from, to);
    }

    public int minimum(int slot, int from, int to) throws IndexOutOfBoundsException {
        return seriesWithRange(slot, from, to).least(from, to);
    }

    public int maximum(int slot, int from, int to) throws IndexOutOfBoundsException {
        return seriesWithRange(slot, from, to).greatest(from, to);
    }

    public int countAbove(int slot, int threshold) throws IndexOutOfBoundsException {
        return seriesIn(slot).countOver(threshold);
    }

    public int valueByRank(int slot, int rank) throws IndexOutOfBoundsException, NoSuchElementException {
        Series series = seriesIn(slot);
        if (!series.has(rank)) {
            throw new NoSuchElementException("no such rank");
        }
        return series.at(series.indexOfRank(rank));
    }

    public double mean(int slot) throws IndexOutOfBoundsException, ArithmeticException {
        Series series = seriesIn(slot);
        if (series.isEmpty()) {
            throw new ArithmeticException("the series is empty");
        }
        return (double) series.total(0, series.size() - 1) / (double) series.size();
    }

    public int windowMaximum(int slot, int width, int index)
            throws IndexOutOfBoundsException, IllegalArgumentException, NoSuchElementException {
        return ranges.windowTop(seriesWithWindow(slot, width, index), width, index);
    }

    public int windowMaximumByScan(int slot, int width, int index)
            throws IndexOutOfBoundsException, IllegalArgumentException, NoSuchElementException {
        return seriesWithWindow(slot, width, index).greatest(index - width + 1, index);
    }

    public int nextGreater(int slot, int index) throws IndexOutOfBoundsException, NoSuchElementException {
        return found(ranges.nextAbove(seriesWith(slot, index), index));
    }

    public int nextGreaterByScan(int slot, int index) throws IndexOutOfBoundsException, NoSuchElementException {
        return found(Ranges.nextAboveByScan(seriesWith(slot, index), index));
    }

    // Peaks

    public int peakCount(int slot) throws IndexOutOfBoundsException {
        return Peaks.number(seriesIn(slot));
    }

    public boolean isPeak(int slot, int index) throws IndexOutOfBoundsException {
        return Peaks.standsOut(seriesWith(slot, index), index);
    }

    public int prominence(int slot, int index) throws IndexOutOfBoundsException, NoSuchElementException {
        return Peaks.heightBySides(seriesWithPeak(slot, index), index);
    }

    public int prominenceByLevels(int slot, int index) throws IndexOutOfBoundsException, NoSuchElementException {
        return Peaks.heightByLevels(seriesWithPeak(slot, index), index);
    }

    public int peakByProminence(int slot, int rank) throws IndexOutOfBoundsException, NoSuchElementException {
        return found(Peaks.ofRank(seriesIn(slot), rank));
    }

    // Best ranges and inversions

    public int bestSum(int slot) throws IndexOutOfBoundsException, IllegalStateException {
        return Ranges.bestTotal(filledSeries(slot));
    }

    public int bestSumByRanges(int slot) throws IndexOutOfBoundsException, IllegalStateException {
        return Ranges.bestTotalByRanges(filledSeries(slot));
    }

    public int bestStart(int slot) throws IndexOutOfBoundsException, IllegalStateException {
        return Ranges.firstOfBest(filledSeries(slot));
    }

    public int bestEnd(int slot) throws IndexOutOfBoundsException, IllegalStateException {
        return Ranges.lastOfBest(filledSeries(slot));
    }

    public int inversions(int slot) throws IndexOutOfBoundsException {
        return ranges.fallingPairs(seriesIn(slot));
    }

    public int inversionsByPairs(int slot) throws IndexOutOfBoundsException {
        return Ranges.fallingPairsByPairs(seriesIn(slot));
    }

    // Periods, occurrences, segments and distances

    public int leastPeriod(int slot) throws IndexOutOfBoundsException, IllegalStateException {
        return patterns.period(filledSeries(slot));
    }

    public int leastPeriodByTrial(int slot) throws IndexOutOfBoundsException, IllegalStateException {
        return Patterns.periodByTrial(filledSeries(slot));
    }

    public int occurrences(int slot, int other) throws IndexOutOfBoundsException, IllegalStateException {
        Series series = seriesIn(slot);
        return patterns.places(series, filledSeries(other));
    }

    public int occurrencesByScan(int slot, int other) throws IndexOutOfBoundsException, IllegalStateException {
        Series series = seriesIn(slot);
        return Patterns.placesByScan(series, filledSeries(other));
    }

    public int leastError(int slot, int parts)
            throws IndexOutOfBoundsException, IllegalArgumentException, IllegalStateException {
        return divisions.error(divisibleSeries(slot, parts), parts);
    }

    public int leastErrorByCuts(int slot, int parts)
            throws IndexOutOfBoundsException, IllegalArgumentException, IllegalStateException {
        return Divisions.errorByCuts(divisibleSeries(slot, parts), parts);
    }

    public int segmentStart(int slot, int parts, int segment)
            throws IndexOutOfBoundsException, IllegalArgumentException, IllegalStateException,
            NoSuchElementException {
        Series series = divisibleSeries(slot, parts);
        if (segment < 0 || segment >= parts) {
            throw new NoSuchElementException("no such segment");
        }
        return divisions.start(series, parts, segment);
    }

    public int distance(int slot, int other) throws IndexOutOfBoundsException, IllegalStateException {
        needBothFilled(slot, other);
        return walks.costByTable(state.at(slot), state.at(other));
    }

    public int distanceByWalks(int slot, int other) throws IndexOutOfBoundsException, IllegalStateException {
        needBothFilled(slot, other);
        return walks.costByGoingOn(state.at(slot), state.at(other));
    }

    // Comparisons and totals

    public boolean areEqual(int slot, int other) throws IndexOutOfBoundsException {
        return seriesIn(slot).isSameAs(seriesIn(other));
    }

    public boolean areParallel(int slot, int other) throws IndexOutOfBoundsException {
        return seriesIn(slot).runsAlong(seriesIn(other));
    }

    public boolean isAscending(int slot) throws IndexOutOfBoundsException {
        return seriesIn(slot).neverFalls();
    }

    public int valueTotal() {
        return state.valueCount();
    }

    public int appendedTotal() {
        return state.appendedCount();
    }

    public float positiveShare() throws ArithmeticException {
        int all = state.valueCount();
        if (all < 1) {
            throw new ArithmeticException("all series are empty");
        }
        return (float) state.positiveCount() / (float) all;
    }

    public boolean isConsistent() {
        for (int slot = 0; slot < SLOTS; slot++) {
            Series series = state.at(slot);
            if (!ranges.agreeOn(series) || !patterns.agreeOn(series)) {
                return false;
            }
        }
        return true;
    }

    // The line

    public int formatSeries(int slot) throws IndexOutOfBoundsException {
        Series series = seriesIn(slot);
        line.setLength(0);
        for (int i = 0; i < series.size(); i++) {
            writeSeparated(series.at(i));
        }
        return line.length();
    }

    public int formatRuns(int slot) throws IndexOutOfBoundsException {
        Series series = seriesIn(slot);
        line.setLength(0);
        int times = 0;
        for (int i = 0; i < series.size(); i++) {
            times++;
            if (!series.has(i + 1) || series.at(i + 1) != series.at(i)) {
                writeSeparated(series.at(i));
                line.append('x');
                line.append(times);
                times = 0;
            }
        }
        return line.length();
    }

    public char lineChar(int index) throws IndexOutOfBoundsException {
        if (index < 0 || index >= line.length()) {
            throw new IndexOutOfBoundsException("the line has no such character");
        }
        return line.charAt(index);
    }

    // Programs

    public int type(char character) throws IllegalArgumentException, IllegalStateException {
        if (character < ' ' || character > '~') {
            throw new IllegalArgumentException("not a character that can be typed");
        }
        if (input.isFull()) {
            throw new IllegalStateException("the input buffer is full");
        }
        return input.add(character);
    }

    public int run() throws IllegalArgumentException, IllegalStateException {
        int commands = input.countCommands();
        if (commands == NONE) {
            storedErrorPosition = input.errorPlace();
            input.clear();
            throw new IllegalArgumentException("the program is malformed");
        }
        int failed = execute(commands);
        input.clear();
        if (failed != NONE) {
            storedFailedCommand = failed;
            throw new IllegalStateException("a command failed");
        }
        return commands;
    }

    public int errorPosition() throws NoSuchElementException {
        return found(storedErrorPosition);
    }

    public int failedCommand() throws NoSuchElementException {
        return found(storedFailedCommand);
    }

    // Undo and the saved copy

    public int undoableCount() {
        return history.size();
    }

    public int undo() throws IllegalStateException {
        if (history.size() < 1) {
            throw new IllegalStateException("no change can be undone");
        }
        history.takeBack(state);
        return history.size();
    }

    public int save() {
        state.store(saved, 0);
        hasSaved = true;
        return state.valueCount();
    }

    public int restore() throws IllegalStateException {
        if (!hasSaved) {
            throw new IllegalStateException("there is no saved copy");
        }
        state.load(saved, 0);
        history.clear();
        return state.valueCount();
    }

    // How changes happen

    private int change(Kind kind, int slot, int first, int second) {
        refuse(state.faultOf(kind, slot, first, second));
        history.keep(state);
        return state.apply(kind, slot, first, second);
    }

    private static void refuse(Fault fault) {
        if (fault == Fault.INDEX) {
            throw new IndexOutOfBoundsException("no such slot or index");
        }
        if (fault == Fault.ARGUMENT) {
            throw new IllegalArgumentException("an argument is out of range");
        }
        if (fault == Fault.STATE) {
            throw new IllegalStateException("the series does not allow it");
        }
    }

    /** Answers the index of the failed command, or NONE; then all of them together are one change. */
    private int execute(int commands) {
        state.store(beforeRun, 0);
        int position = 0;
        for (int i = 0; i < commands; i++) {
            int end = input.readCommand(position);
            Kind kind = input.kind();
            int slot = input.argument(0);
            int first = input.argument(1);
            int second = input.argument(2);
            if (state.faultOf(kind, slot, first, second) != Fault.NOTHING) {
                state.load(beforeRun, 0);
                return i;
            }
            state.apply(kind, slot, first, second);
            position = end + 1;
        }
        history.keepRow(beforeRun);
        return NONE;
    }

    // What calls need

    private Series seriesIn(int slot) {
        if (!isSlot(slot)) {
            throw new IndexOutOfBoundsException("no such slot");
        }
        return state.at(slot);
    }

    private Series seriesWith(int slot, int index) {
        Series series = seriesIn(slot);
        if (!series.has(index)) {
            throw new IndexOutOfBoundsException("no value has this index");
        }
        return series;
    }

    private Series seriesWithRange(int slot, int from, int to) {
        Series series = seriesIn(slot);
        if (!series.has(from) || !series.has(to) || from > to) {
            throw new IndexOutOfBoundsException("no such range");
        }
        return series;
    }

    private Series seriesWithWindow(int slot, int width, int index) {
        Series series = seriesWith(slot, index);
        if (width < 1 || width > series.size()) {
            throw new IllegalArgumentException("the width is out of range");
        }
        if (index - width + 1 < 0) {
            throw new NoSuchElementException("the window would begin before the series");
        }
        return series;
    }

    private Series seriesWithPeak(int slot, int index) {
        Series series = seriesWith(slot, index);
        if (!Peaks.standsOut(series, index)) {
            throw new NoSuchElementException("the value is not a peak");
        }
        return series;
    }

    private Series filledSeries(int slot) {
        Series series = seriesIn(slot);
        if (series.isEmpty()) {
            throw new IllegalStateException("the series is empty");
        }
        return series;
    }

    private Series divisibleSeries(int slot, int parts) {
        Series series = seriesIn(slot);
        if (parts < 1 || parts > GREATEST_PARTS) {
            throw new IllegalArgumentException("the number of segments is out of range");
        }
        if (series.size() < parts) {
            throw new IllegalStateException("the series has fewer values than segments");
        }
        return series;
    }

    /** Both slots are looked at before both series, for a missing slot is listed first. */
    private void needBothFilled(int slot, int other) {
        Series one = seriesIn(slot);
        Series another = seriesIn(other);
        if (one.isEmpty() || another.isEmpty()) {
            throw new IllegalStateException("one of the series is empty");
        }
    }

    private static int found(int number) {
        if (number == NONE) {
            throw new NoSuchElementException("there is none");
        }
        return number;
    }

    private void writeSeparated(int number) {
        if (line.length() > 0) {
            line.append(' ');
        }
        line.append(number);
    }

    private static boolean isSlot(int slot) {
        return slot >= 0 && slot < SLOTS;
    }

    private static boolean isValue(int number) {
        return number >= LEAST_VALUE && number <= GREATEST_VALUE;
    }

    // Rows are reached by index through these two, so that no index can make the machine throw

    private static int read(int[] row, int index) {
        return index >= 0 && index < row.length ? row[index] : 0;
    }

    private static void write(int[] row, int index, int number) {
        if (index >= 0 && index < row.length) {
            row[index] = number;
        }
    }

    /** Why a change is refused: what its method throws, told without an exception for the sake of run. */
    private enum Fault {
        NOTHING, INDEX, ARGUMENT, STATE
    }

    /** The changes, and how a command writes each: D is a digit, I an index, N a number, all else itself. */
    private enum Kind {
        PUT("put D N"),
        SET("set D I=N"),
        CUT("cut D I"),
        COPY("copy D<D"),
        TURN("turn D"),
        SHIFT("shift D N"),
        SMOOTH("smooth D D"),
        STEPS("steps D"),
        CLIP("clip D N N");

        private static final Kind[] ALL = values();

        private final String shape;

        Kind(String shape) {
            this.shape = shape;
        }
    }

    /** Some values, numbered from 0. */
    private static final class Series {
        private final int[] values = new int[CAPACITY];
        private int count;

        int size() {
            return count;
        }

        boolean isEmpty() {
            return count == 0;
        }

        boolean isFull() {
            return count >= CAPACITY;
        }

        boolean has(int index) {
            return index >= 0 && index < count;
        }

        int at(int index) {
            return index >= 0 && index < values.length ? values[index] : 0;
        }

        void put(int index, int number) {
            write(values, index, number);
        }

        void add(int number) {
            if (!isFull()) {
                put(count, number);
                count++;
            }
        }

        void dropFirst(int number) {
            for (int i = number; i < count; i++) {
                put(i - number, at(i));
            }
            count -= number;
        }

        void become(Series other) {
            for (int i = 0; i < other.count; i++) {
                put(i, other.at(i));
            }
            count = other.count;
        }

        void store(int[] row, int from) {
            write(row, from, count);
            for (int i = 0; i < count; i++) {
                write(row, from + 1 + i, at(i));
            }
        }

        void load(int[] row, int from) {
            count = read(row, from);
            for (int i = 0; i < count; i++) {
                put(i, read(row, from + 1 + i));
            }
        }

        int replace(int index, int number) {
            int before = at(index);
            put(index, number);
            return before;
        }

        int turn() {
            int changed = 0;
            int last = count - 1;
            for (int i = 0; i < last - i; i++) {
                int before = replace(i, at(last - i));
                put(last - i, before);
                changed += at(i) == before ? 0 : 2;
            }
            return changed;
        }

        boolean canRise(int amount) {
            for (int i = 0; i < count; i++) {
                if (!isValue(at(i) + amount)) {
                    return false;
                }
            }
            return true;
        }

        int rise(int amount) {
            for (int i = 0; i < count; i++) {
                put(i, at(i) + amount);
            }
            return total(0, count - 1);
        }

        /** The old values stand apart, for all new values come from them. */
        int flatten(int width, Series old) {
            old.become(this);
            int changed = 0;
            for (int i = 0; i < count; i++) {
                put(i, old.meanAround(i, width));
                changed += at(i) == old.at(i) ? 0 : 1;
            }
            return changed;
        }

        private int meanAround(int index, int width) {
            int from = Math.max(index - width, 0);
            int to = Math.min(index + width, count - 1);
            int number = to - from + 1;
            return number < 1 ? 0 : Math.floorDiv(total(from, to), number);
        }

        boolean hasSteps() {
            for (int i = 1; i < count; i++) {
                if (!isValue(at(i) - at(i - 1))) {
                    return false;
                }
            }
            return count > 0;
        }

        int becomeSteps() {
            for (int i = 1; i < count; i++) {
                put(i - 1, at(i) - at(i - 1));
            }
            count = Math.max(count - 1, 0);
            return count;
        }

        int bound(int low, int high) {
            int changed = 0;
            for (int i = 0; i < count; i++) {
                int before = replace(i, Math.min(Math.max(at(i), low), high));
                changed += at(i) == before ? 0 : 1;
            }
            return changed;
        }

        int total(int from, int to) {
            int total = 0;
            for (int i = from; i <= to; i++) {
                total += at(i);
            }
            return total;
        }

        int least(int from, int to) {
            int least = at(from);
            for (int i = from + 1; i <= to; i++) {
                least = Math.min(least, at(i));
            }
            return least;
        }

        int greatest(int from, int to) {
            int greatest = at(from);
            for (int i = from + 1; i <= to; i++) {
                greatest = Math.max(greatest, at(i));
            }
            return greatest;
        }

        int countOver(int threshold) {
            int over = 0;
            for (int i = 0; i < count; i++) {
                over += at(i) > threshold ? 1 : 0;
            }
            return over;
        }

        int indexOfRank(int rank) {
            for (int i = 0; i < count; i++) {
                if (rankOf(i) == rank) {
                    return i;
                }
            }
            return NONE;
        }

        /** Of equal values, the earlier one is counted first, so that each rank belongs to one index. */
        private int rankOf(int index) {
            int before = 0;
            for (int i = 0; i < count; i++) {
                boolean isFirst = at(i) < at(index) || at(i) == at(index) && i < index;
                before += isFirst ? 1 : 0;
            }
            return before;
        }

        boolean isSameAs(Series other) {
            return runsAlong(other) && (count == 0 || at(0) == other.at(0));
        }

        boolean runsAlong(Series other) {
            if (count != other.count) {
                return false;
            }
            for (int i = 1; i < count; i++) {
                if (at(i) - other.at(i) != at(0) - other.at(0)) {
                    return false;
                }
            }
            return true;
        }

        boolean neverFalls() {
            for (int i = 1; i < count; i++) {
                if (at(i) < at(i - 1)) {
                    return false;
                }
            }
            return true;
        }
    }

    /** Everything that undo takes back and that a saved copy holds. */
    private static final class State {
        private final Series inSlot0 = new Series();
        private final Series inSlot1 = new Series();
        private final Series inSlot2 = new Series();
        private final Series inSlot3 = new Series();
        private final Series old = new Series();
        private int appended;

        Series at(int slot) {
            if (slot == 0) {
                return inSlot0;
            }
            if (slot == 1) {
                return inSlot1;
            }
            return slot == 2 ? inSlot2 : inSlot3;
        }

        int appendedCount() {
            return appended;
        }

        int valueCount() {
            int all = 0;
            for (int slot = 0; slot < SLOTS; slot++) {
                all += at(slot).size();
            }
            return all;
        }

        int positiveCount() {
            int positive = 0;
            for (int slot = 0; slot < SLOTS; slot++) {
                positive += at(slot).countOver(0);
            }
            return positive;
        }

        void store(int[] row, int from) {
            write(row, from, appended);
            for (int slot = 0; slot < SLOTS; slot++) {
                at(slot).store(row, from + 1 + slot * (CAPACITY + 1));
            }
        }

        void load(int[] row, int from) {
            appended = read(row, from);
            for (int slot = 0; slot < SLOTS; slot++) {
                at(slot).load(row, from + 1 + slot * (CAPACITY + 1));
            }
        }

        Fault faultOf(Kind kind, int slot, int first, int second) {
            if (!isSlot(slot)) {
                return Fault.INDEX;
            }
            Series series = at(slot);
            switch (kind) {
                case PUT:
                    return !isValue(first) ? Fault.ARGUMENT : stateFault(!series.isFull());
                case SET:
                    return !series.has(first) ? Fault.INDEX : argumentFault(isValue(second));
                case CUT:
                    return argumentFault(first >= 1 && first <= series.size());
                case COPY:
                    return isSlot(first) ? Fault.NOTHING : Fault.INDEX;
                case SHIFT:
                    return !isValue(first) ? Fault.ARGUMENT : stateFault(series.canRise(first));
                case SMOOTH:
                    return argumentFault(first >= 1 && first <= GREATEST_WIDTH);
                case STEPS:
                    return stateFault(series.hasSteps());
                case CLIP:
                    return argumentFault(isValue(first) && isValue(second) && first <= second);
                case TURN:
                default:
                    return Fault.NOTHING;
            }
        }

        private static Fault argumentFault(boolean isFine) {
            return isFine ? Fault.NOTHING : Fault.ARGUMENT;
        }

        private static Fault stateFault(boolean isFine) {
            return isFine ? Fault.NOTHING : Fault.STATE;
        }

        /** Only for a change that has no fault. */
        int apply(Kind kind, int slot, int first, int second) {
            Series series = at(slot);
            switch (kind) {
                case PUT:
                    series.add(first);
                    appended++;
                    return series.size();
                case SET:
                    return series.replace(first, second);
                case CUT:
                    series.dropFirst(first);
                    return series.size();
                case COPY:
                    series.become(at(first));
                    return series.size();
                case TURN:
                    return series.turn();
                case SHIFT:
                    return series.rise(first);
                case SMOOTH:
                    return series.flatten(first, old);
                case STEPS:
                    return series.becomeSteps();
                case CLIP:
                default:
                    return series.bound(first, second);
            }
        }
    }

    /** The states before the latest changes, in a ring: the ninth one overwrites the first one. */
    private static final class History {
        private final int[] rows = new int[UNDO_LIMIT * STATE_SIZE];
        private int next;
        private int count;

        int size() {
            return count;
        }

        void clear() {
            count = 0;
        }

        void keep(State state) {
            state.store(rows, next * STATE_SIZE);
            goOn();
        }

        void keepRow(int[] row) {
            for (int i = 0; i < STATE_SIZE; i++) {
                write(rows, next * STATE_SIZE + i, read(row, i));
            }
            goOn();
        }

        private void goOn() {
            next = next + 1 < UNDO_LIMIT ? next + 1 : 0;
            count = Math.min(count + 1, UNDO_LIMIT);
        }

        void takeBack(State state) {
            next = next > 0 ? next - 1 : UNDO_LIMIT - 1;
            count--;
            state.load(rows, next * STATE_SIZE);
        }
    }

    /** The input buffer, and the reading of the commands in it. */
    private static final class Input {
        private final char[] text = new char[INPUT_LIMIT];
        private int count;
        private final int[] arguments = new int[3];
        private int argumentCount;
        private Kind kind = Kind.PUT;
        private int furthest;

        boolean isFull() {
            return count >= text.length;
        }

        int add(char character) {
            if (!isFull()) {
                text[count] = character;
                count++;
            }
            return count;
        }

        void clear() {
            count = 0;
        }

        Kind kind() {
            return kind;
        }

        int argument(int number) {
            return read(arguments, number);
        }

        int errorPlace() {
            return furthest;
        }

        /** Answers NONE if the program is malformed; then errorPlace tells where. */
        int countCommands() {
            int position = 0;
            for (int commands = 1; commands <= INPUT_LIMIT; commands++) {
                int end = readCommand(position);
                if (end == NONE || end >= count) {
                    return end == NONE ? NONE : commands;
                }
                if (signAt(end) != ';') {
                    furthest = end;
                    return NONE;
                }
                position = end + 1;
            }
            return NONE;
        }

        /**
         * Answers the position after the command, or NONE. A beginning that one kind refuses may belong to
         * another kind, so the error is where the last of the kinds gives up.
         */
        int readCommand(int position) {
            furthest = position;
            for (Kind each : Kind.ALL) {
                int end = readShape(each.shape, position);
                if (end != NONE) {
                    kind = each;
                    return end;
                }
            }
            return NONE;
        }

        private int readShape(String shape, int start) {
            argumentCount = 0;
            int position = start;
            for (int i = 0; i < shape.length(); i++) {
                position = readPart(shape.charAt(i), position);
                if (position == NONE) {
                    return NONE;
                }
            }
            return position;
        }

        private int readPart(char part, int position) {
            switch (part) {
                case 'D':
                    return readDigit(position);
                case 'I':
                    return readIndex(position, 1);
                case 'N':
                    return signAt(position) == '-' ? readIndex(position + 1, -1) : readIndex(position, 1);
                default:
                    return signAt(position) == part ? position + 1 : giveUp(position);
            }
        }

        private int readDigit(int position) {
            int digit = digitAt(position);
            return digit == NONE ? giveUp(position) : keepArgument(digit, position + 1);
        }

        private int readIndex(int position, int factor) {
            int digit = digitAt(position);
            int next = digitAt(position + 1);
            if (digit == NONE || next == NONE) {
                return digit == NONE ? giveUp(position) : keepArgument(factor * digit, position + 1);
            }
            return keepArgument(factor * (10 * digit + next), position + 2);
        }

        private int keepArgument(int number, int position) {
            write(arguments, argumentCount, number);
            argumentCount++;
            return position;
        }

        private int giveUp(int position) {
            furthest = Math.max(furthest, position);
            return NONE;
        }

        private int digitAt(int position) {
            char sign = signAt(position);
            return sign >= '0' && sign <= '9' ? sign - '0' : NONE;
        }

        /** Behind the text stands a sign that cannot be typed, so that no command goes on there. */
        private char signAt(int position) {
            return position >= 0 && position < count && position < text.length ? text[position] : (char) 0;
        }
    }

    /** Sums, windows, next greater values, best ranges and inversions. */
    private static final class Ranges {
        private final int[] tree = new int[CAPACITY + 1];
        private final int[] candidates = new int[CAPACITY];
        private final int[] sorted = new int[CAPACITY];
        private final int[] spare = new int[CAPACITY];

        int totalByTree(Series series, int from, int to) {
            growTree(series);
            return treeTotal(to + 1) - treeTotal(from);
        }

        private void growTree(Series series) {
            for (int i = 1; i <= series.size(); i++) {
                write(tree, i, 0);
            }
            for (int i = 1; i <= series.size(); i++) {
                for (int node = i; node <= series.size(); node += node & -node) {
                    write(tree, node, read(tree, node) + series.at(i - 1));
                }
            }
        }

        private int treeTotal(int number) {
            int total = 0;
            for (int node = number; node > 0; node -= node & -node) {
                total += read(tree, node);
            }
            return total;
        }

        int windowTop(Series series, int width, int index) {
            int head = 0;
            int tail = 0;
            for (int i = 0; i <= index; i++) {
                while (tail > head && series.at(read(candidates, tail - 1)) <= series.at(i)) {
                    tail--;
                }
                write(candidates, tail, i);
                tail++;
                if (read(candidates, head) <= i - width) {
                    head++;
                }
            }
            return series.at(read(candidates, head));
        }

        int nextAbove(Series series, int index) {
            int height = 0;
            int next = NONE;
            for (int i = series.size() - 1; i >= index; i--) {
                while (height > 0 && series.at(read(candidates, height - 1)) <= series.at(i)) {
                    height--;
                }
                next = height > 0 ? read(candidates, height - 1) : NONE;
                write(candidates, height, i);
                height++;
            }
            return next;
        }

        static int nextAboveByScan(Series series, int index) {
            for (int i = index + 1; i < series.size(); i++) {
                if (series.at(i) > series.at(index)) {
                    return i;
                }
            }
            return NONE;
        }

        static int bestTotal(Series series) {
            int ending = series.at(0);
            int best = ending;
            for (int i = 1; i < series.size(); i++) {
                ending = Math.max(ending, 0) + series.at(i);
                best = Math.max(best, ending);
            }
            return best;
        }

        static int bestTotalByRanges(Series series) {
            int best = series.at(0);
            for (int from = 0; from < series.size(); from++) {
                int total = 0;
                for (int to = from; to < series.size(); to++) {
                    total += series.at(to);
                    best = Math.max(best, total);
                }
            }
            return best;
        }

        static int firstOfBest(Series series) {
            int best = bestTotal(series);
            for (int from = 0; from < series.size(); from++) {
                if (endOfTotal(series, from, best) != NONE) {
                    return from;
                }
            }
            return NONE;
        }

        static int lastOfBest(Series series) {
            return endOfTotal(series, firstOfBest(series), bestTotal(series));
        }

        /** The end of the shortest range with this start and this sum. */
        private static int endOfTotal(Series series, int from, int wanted) {
            int total = 0;
            for (int to = from; to < series.size(); to++) {
                total += series.at(to);
                if (total == wanted) {
                    return to;
                }
            }
            return NONE;
        }

        int fallingPairs(Series series) {
            for (int i = 0; i < series.size(); i++) {
                write(sorted, i, series.at(i));
            }
            return sortHalves(sorted, spare, 0, series.size(), 0);
        }

        /** Sorts the numbers from an index to before another one; answers how many pairs fell. */
        private static int sortHalves(int[] row, int[] spare, int from, int end, int depth) {
            if (end - from < 2 || depth > DEEPEST) {
                return 0;
            }
            int middle = from + (end - from) / 2;
            int pairs = sortHalves(row, spare, from, middle, depth + 1);
            pairs += sortHalves(row, spare, middle, end, depth + 1);
            return pairs + merge(row, spare, from, middle, end);
        }

        private static int merge(int[] row, int[] spare, int from, int middle, int end) {
            int pairs = 0;
            int left = from;
            int right = middle;
            for (int i = from; i < end; i++) {
                boolean takesRight = left >= middle || right < end && read(row, left) > read(row, right);
                if (takesRight) {
                    write(spare, i, read(row, right));
                    right++;
                    pairs += middle - left;
                } else {
                    write(spare, i, read(row, left));
                    left++;
                }
            }
            for (int i = from; i < end; i++) {
                write(row, i, read(spare, i));
            }
            return pairs;
        }

        static int fallingPairsByPairs(Series series) {
            int pairs = 0;
            for (int i = 0; i < series.size(); i++) {
                for (int later = i + 1; later < series.size(); later++) {
                    pairs += series.at(i) > series.at(later) ? 1 : 0;
                }
            }
            return pairs;
        }

        boolean agreeOn(Series series) {
            for (int i = 0; i < series.size(); i++) {
                if (series.total(0, i) != totalByTree(series, 0, i)
                        || nextAbove(series, i) != nextAboveByScan(series, i)) {
                    return false;
                }
            }
            return fallingPairs(series) == fallingPairsByPairs(series)
                    && (series.isEmpty() || bestTotal(series) == bestTotalByRanges(series));
        }
    }

    /** Peaks and their prominences. */
    private static final class Peaks {
        static boolean standsOut(Series series, int index) {
            return (!series.has(index - 1) || series.at(index - 1) < series.at(index))
                    && (!series.has(index + 1) || series.at(index + 1) < series.at(index));
        }

        static int number(Series series) {
            int peaks = 0;
            for (int i = 0; i < series.size(); i++) {
                peaks += standsOut(series, i) ? 1 : 0;
            }
            return peaks;
        }

        static int heightBySides(Series series, int index) {
            boolean hasLeft = series.has(index - 1);
            boolean hasRight = series.has(index + 1);
            if (!hasLeft && !hasRight) {
                return 0;
            }
            int left = hasLeft ? leastBeside(series, index, -1) : LEAST_VALUE;
            int right = hasRight ? leastBeside(series, index, 1) : LEAST_VALUE;
            return series.at(index) - Math.max(left, right);
        }

        private static int leastBeside(Series series, int index, int step) {
            int least = series.at(index);
            for (int far = 1; far < series.size(); far++) {
                int i = index + far * step;
                if (!series.has(i) || series.at(i) > series.at(index)) {
                    break;
                }
                least = Math.min(least, series.at(i));
            }
            return least;
        }

        static int heightByLevels(Series series, int index) {
            int top = series.at(index);
            for (int level = top; level >= LEAST_VALUE; level--) {
                if (reaches(series, index, level, -1) || reaches(series, index, level, 1)) {
                    return top - level;
                }
            }
            // only a single value has no side to reach
            return 0;
        }

        private static boolean reaches(Series series, int index, int level, int step) {
            for (int far = 1; far < series.size(); far++) {
                int i = index + far * step;
                if (!series.has(i) || series.at(i) < level) {
                    return false;
                }
                if (series.at(i) > series.at(index) || !series.has(i + step)) {
                    return true;
                }
            }
            return false;
        }

        static int ofRank(Series series, int rank) {
            for (int i = 0; i < series.size(); i++) {
                if (standsOut(series, i) && rankOf(series, i) == rank) {
                    return i;
                }
            }
            return NONE;
        }

        private static int rankOf(Series series, int index) {
            int own = heightBySides(series, index);
            int before = 0;
            for (int i = 0; i < series.size(); i++) {
                if (standsOut(series, i)) {
                    int height = heightBySides(series, i);
                    before += height > own || height == own && i < index ? 1 : 0;
                }
            }
            return before;
        }
    }

    /** Periods and occurrences. */
    private static final class Patterns {
        /** For each beginning, by its last index: how long its longest shorter beginning is that is its end too. */
        private final int[] borders = new int[CAPACITY];

        int period(Series series) {
            findBorders(series);
            return series.size() - read(borders, series.size() - 1);
        }

        private void findBorders(Series series) {
            int border = 0;
            write(borders, 0, 0);
            for (int i = 1; i < series.size(); i++) {
                border = goOn(series, border, series.at(i));
                write(borders, i, border);
            }
        }

        /** How many first values of the pattern are matched after one more value. */
        private int goOn(Series pattern, int matched, int next) {
            int kept = matched;
            for (int i = 0; i < CAPACITY && kept > 0 && pattern.at(kept) != next; i++) {
                kept = read(borders, kept - 1);
            }
            return pattern.at(kept) == next ? kept + 1 : kept;
        }

        static int periodByTrial(Series series) {
            for (int period = 1; period < series.size(); period++) {
                if (repeats(series, period)) {
                    return period;
                }
            }
            return series.size();
        }

        private static boolean repeats(Series series, int period) {
            for (int i = 0; i + period < series.size(); i++) {
                if (series.at(i) != series.at(i + period)) {
                    return false;
                }
            }
            return true;
        }

        int places(Series series, Series pattern) {
            findBorders(pattern);
            int places = 0;
            int matched = 0;
            for (int i = 0; i < series.size(); i++) {
                matched = goOn(pattern, matched, series.at(i));
                if (matched == pattern.size()) {
                    places++;
                    matched = read(borders, matched - 1);
                }
            }
            return places;
        }

        static int placesByScan(Series series, Series pattern) {
            int places = 0;
            for (int from = 0; from + pattern.size() <= series.size(); from++) {
                places += standsAt(series, pattern, from) ? 1 : 0;
            }
            return places;
        }

        private static boolean standsAt(Series series, Series pattern, int from) {
            for (int i = 0; i < pattern.size(); i++) {
                if (series.at(from + i) != pattern.at(i)) {
                    return false;
                }
            }
            return true;
        }

        boolean agreeOn(Series series) {
            return series.isEmpty() || period(series) == periodByTrial(series);
        }
    }

    /** Divisions into segments. */
    private static final class Divisions {
        private static final int STRIDE = CAPACITY + 1;

        /** At parts * STRIDE + n: the least error of a beginning of n values, or of the ending from n on. */
        private final int[] errors = new int[(GREATEST_PARTS + 1) * STRIDE];

        int error(Series series, int parts) {
            for (int part = 1; part <= parts; part++) {
                for (int end = part; end <= series.size(); end++) {
                    write(errors, part * STRIDE + end, errorOfBeginning(series, part, end));
                }
            }
            return read(errors, parts * STRIDE + series.size());
        }

        private int errorOfBeginning(Series series, int parts, int end) {
            if (parts == 1) {
                return spread(series, 0, end - 1);
            }
            int best = FAR;
            for (int cut = parts - 1; cut < end; cut++) {
                int before = read(errors, (parts - 1) * STRIDE + cut);
                best = Math.min(best, before + spread(series, cut, end - 1));
            }
            return best;
        }

        private static int spread(Series series, int from, int to) {
            return series.greatest(from, to) - series.least(from, to);
        }

        static int errorByCuts(Series series, int parts) {
            return leastByCuts(series, 0, parts);
        }

        /** The number of parts falls with each level, so that four of them are the deepest. */
        private static int leastByCuts(Series series, int from, int parts) {
            if (parts <= 1 || parts > GREATEST_PARTS) {
                return spread(series, from, series.size() - 1);
            }
            int best = FAR;
            for (int cut = from + 1; cut <= series.size() - parts + 1; cut++) {
                int rest = leastByCuts(series, cut, parts - 1);
                best = Math.min(best, spread(series, from, cut - 1) + rest);
            }
            return best;
        }

        int start(Series series, int parts, int segment) {
            for (int part = 1; part <= parts; part++) {
                for (int from = 0; from <= series.size() - part; from++) {
                    write(errors, part * STRIDE + from, errorOfEnding(series, part, from));
                }
            }
            int start = 0;
            for (int i = 0; i < segment; i++) {
                start = firstCut(series, parts - i, start);
            }
            return start;
        }

        private int errorOfEnding(Series series, int parts, int from) {
            if (parts == 1) {
                return spread(series, from, series.size() - 1);
            }
            int best = FAR;
            for (int cut = from + 1; cut <= series.size() - parts + 1; cut++) {
                best = Math.min(best, errorWithCut(series, parts, from, cut));
            }
            return best;
        }

        private int errorWithCut(Series series, int parts, int from, int cut) {
            return spread(series, from, cut - 1) + read(errors, (parts - 1) * STRIDE + cut);
        }

        /** Of the best divisions, the first cut that fits makes the segment shortest. */
        private int firstCut(Series series, int parts, int from) {
            int best = read(errors, parts * STRIDE + from);
            for (int cut = from + 1; cut <= series.size() - parts + 1; cut++) {
                if (errorWithCut(series, parts, from, cut) == best) {
                    return cut;
                }
            }
            return from;
        }
    }

    /** Distances of two series. */
    private static final class Walks {
        private final int[] costs = new int[CAPACITY * CAPACITY];

        int costByTable(Series one, Series other) {
            for (int i = 0; i < one.size(); i++) {
                for (int j = 0; j < other.size(); j++) {
                    write(costs, place(i, j), gap(one, other, i, j) + costBefore(i, j));
                }
            }
            return read(costs, place(one.size() - 1, other.size() - 1));
        }

        private int costBefore(int i, int j) {
            if (i == 0 && j == 0) {
                return 0;
            }
            int best = i > 0 ? read(costs, place(i - 1, j)) : FAR;
            best = Math.min(best, j > 0 ? read(costs, place(i, j - 1)) : FAR);
            return Math.min(best, i > 0 && j > 0 ? read(costs, place(i - 1, j - 1)) : FAR);
        }

        int costByGoingOn(Series one, Series other) {
            for (int i = 0; i < costs.length; i++) {
                write(costs, i, NONE);
            }
            return costFrom(one, other, costs, 0, 0, 0);
        }

        private static int costFrom(Series one, Series other, int[] known, int i, int j, int depth) {
            if (!one.has(i) || !other.has(j) || depth > DEEPEST) {
                return FAR;
            }
            if (read(known, place(i, j)) == NONE) {
                int best = costFrom(one, other, known, i + 1, j, depth + 1);
                best = Math.min(best, costFrom(one, other, known, i, j + 1, depth + 1));
                best = Math.min(best, costFrom(one, other, known, i + 1, j + 1, depth + 1));
                boolean isEnd = !one.has(i + 1) && !other.has(j + 1);
                write(known, place(i, j), gap(one, other, i, j) + (isEnd ? 0 : best));
            }
            return read(known, place(i, j));
        }

        private static int gap(Series one, Series other, int i, int j) {
            return Math.abs(one.at(i) - other.at(j));
        }

        private static int place(int i, int j) {
            return i * CAPACITY + j;
        }
    }
}
