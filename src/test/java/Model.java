import java.util.ArrayDeque;
import java.util.ArrayList;
import java.util.Collections;
import java.util.HashMap;
import java.util.List;
import java.util.Map;
import java.util.NoSuchElementException;
import java.util.regex.Matcher;
import java.util.regex.Pattern;

/**
 * The same face as SeriesArchive, written from the document's definitions with the Java library, as slow as
 * it likes. The random runs compare both.
 */
final class Model {
    private static final String INDEX = "[0-9][0-9]?";
    private static final String NUMBER = "-?" + INDEX;
    private static final String COMMAND = "(?:put [0-9] " + NUMBER + "|set [0-9] " + INDEX + "=" + NUMBER
            + "|cut [0-9] " + INDEX + "|copy [0-9]<[0-9]|turn [0-9]|shift [0-9] " + NUMBER
            + "|smooth [0-9] [0-9]|steps [0-9]|clip [0-9] " + NUMBER + " " + NUMBER + ")";
    private static final Pattern PROGRAM = Pattern.compile(COMMAND + "(?:;" + COMMAND + ")*");

    private static final class Held {
        final List<List<Integer>> series = new ArrayList<>();
        int appended;

        Held() {
            for (int slot = 0; slot < 4; slot++) {
                series.add(new ArrayList<>());
            }
        }

        Held copied() {
            Held copy = new Held();
            for (int slot = 0; slot < 4; slot++) {
                copy.series.get(slot).addAll(series.get(slot));
            }
            copy.appended = appended;
            return copy;
        }
    }

    private Held held = new Held();
    private Held saved;
    private final ArrayDeque<Held> earlier = new ArrayDeque<>();
    private boolean isRunning;
    private String line = "";
    private String buffer = "";
    private Integer errorPosition;
    private Integer failedCommand;

    private void slots(int... slots) {
        for (int slot : slots) {
            if (slot < 0 || slot > 3) {
                throw new IndexOutOfBoundsException();
            }
        }
    }

    private List<Integer> in(int slot) {
        slots(slot);
        return held.series.get(slot);
    }

    private List<Integer> with(int slot, int... indices) {
        List<Integer> series = in(slot);
        for (int index : indices) {
            if (index < 0 || index >= series.size()) {
                throw new IndexOutOfBoundsException();
            }
        }
        return series;
    }

    private static void argument(boolean isFine) {
        if (!isFine) {
            throw new IllegalArgumentException();
        }
    }

    private static void state(boolean isFine) {
        if (!isFine) {
            throw new IllegalStateException();
        }
    }

    private static int element(Integer number) {
        if (number == null) {
            throw new NoSuchElementException();
        }
        return number;
    }

    private static boolean isValue(int number) {
        return -99 <= number && number <= 99;
    }

    private void remember() {
        if (!isRunning) {
            earlier.push(held.copied());
            if (earlier.size() > 8) {
                earlier.removeLast();
            }
        }
    }

    /** Puts new values in place of a series; answers how many of the values differ. */
    private int replaced(int slot, List<Integer> values) {
        List<Integer> series = held.series.get(slot);
        int differing = 0;
        for (int i = 0; i < Math.min(series.size(), values.size()); i++) {
            differing += series.get(i).equals(values.get(i)) ? 0 : 1;
        }
        remember();
        held.series.set(slot, new ArrayList<>(values));
        return differing;
    }

    public int append(int slot, int value) {
        List<Integer> series = in(slot);
        argument(isValue(value));
        state(series.size() < 20);
        remember();
        series.add(value);
        held.appended++;
        return series.size();
    }

    public int setValue(int slot, int index, int value) {
        List<Integer> series = with(slot, index);
        argument(isValue(value));
        remember();
        return series.set(index, value);
    }

    public int removeFirst(int slot, int count) {
        List<Integer> series = in(slot);
        argument(1 <= count && count <= series.size());
        replaced(slot, series.subList(count, series.size()));
        return length(slot);
    }

    public int copy(int slot, int from) {
        slots(slot, from);
        replaced(slot, in(from));
        return length(slot);
    }

    public int reverse(int slot) {
        List<Integer> turned = new ArrayList<>(in(slot));
        Collections.reverse(turned);
        return replaced(slot, turned);
    }

    public int shift(int slot, int amount) {
        List<Integer> series = in(slot);
        argument(isValue(amount));
        List<Integer> shifted = new ArrayList<>();
        for (int value : series) {
            state(isValue(value + amount));
            shifted.add(value + amount);
        }
        replaced(slot, shifted);
        return shifted.stream().mapToInt(value -> value).sum();
    }

    public int smooth(int slot, int width) {
        List<Integer> series = in(slot);
        argument(1 <= width && width <= 9);
        List<Integer> smooth = new ArrayList<>();
        for (int i = 0; i < series.size(); i++) {
            double total = 0;
            int number = 0;
            for (int j = 0; j < series.size(); j++) {
                if (Math.abs(i - j) <= width) {
                    total += series.get(j);
                    number++;
                }
            }
            smooth.add((int) Math.floor(total / number));
        }
        return replaced(slot, smooth);
    }

    public int toSteps(int slot) {
        List<Integer> series = in(slot);
        state(!series.isEmpty());
        List<Integer> steps = new ArrayList<>();
        for (int i = 1; i < series.size(); i++) {
            int step = series.get(i) - series.get(i - 1);
            state(isValue(step));
            steps.add(step);
        }
        replaced(slot, steps);
        return steps.size();
    }

    public int clip(int slot, int low, int high) {
        List<Integer> series = in(slot);
        argument(isValue(low) && isValue(high) && low <= high);
        List<Integer> clipped = new ArrayList<>();
        for (int value : series) {
            clipped.add(value < low ? low : value > high ? high : value);
        }
        return replaced(slot, clipped);
    }

    public int length(int slot) {
        return in(slot).size();
    }

    public int value(int slot, int index) {
        return with(slot, index).get(index);
    }

    private List<Integer> range(int slot, int from, int to) {
        List<Integer> series = with(slot, from, to);
        if (from > to) {
            throw new IndexOutOfBoundsException();
        }
        return series.subList(from, to + 1);
    }

    private static int total(List<Integer> values) {
        return values.stream().mapToInt(value -> value).sum();
    }

    public int sum(int slot, int from, int to) {
        return total(range(slot, from, to));
    }

    public int sumByTree(int slot, int from, int to) {
        return total(range(slot, from, to));
    }

    public int minimum(int slot, int from, int to) {
        return Collections.min(range(slot, from, to));
    }

    public int maximum(int slot, int from, int to) {
        return Collections.max(range(slot, from, to));
    }

    public int countAbove(int slot, int threshold) {
        return (int) in(slot).stream().filter(value -> value > threshold).count();
    }

    public int valueByRank(int slot, int rank) {
        List<Integer> sorted = new ArrayList<>(in(slot));
        Collections.sort(sorted);
        return element(rank < 0 || rank >= sorted.size() ? null : sorted.get(rank));
    }

    public double mean(int slot) {
        List<Integer> series = in(slot);
        if (series.isEmpty()) {
            throw new ArithmeticException();
        }
        return (double) total(series) / series.size();
    }

    public int windowMaximum(int slot, int width, int index) {
        List<Integer> series = with(slot, index);
        argument(1 <= width && width <= series.size());
        return element(index + 1 < width ? null : Collections.max(series.subList(index + 1 - width, index + 1)));
    }

    public int windowMaximumByScan(int slot, int width, int index) {
        return windowMaximum(slot, width, index);
    }

    public int nextGreater(int slot, int index) {
        List<Integer> series = with(slot, index);
        int next = index;
        while (next < series.size() && series.get(next) <= series.get(index)) {
            next++;
        }
        return element(next == series.size() ? null : next);
    }

    public int nextGreaterByScan(int slot, int index) {
        return nextGreater(slot, index);
    }

    private List<Integer> peaks(int slot) {
        List<Integer> series = in(slot);
        List<Integer> peaks = new ArrayList<>();
        for (int i = 0; i < series.size(); i++) {
            boolean isPeak = true;
            for (int j = Math.max(0, i - 1); j <= Math.min(series.size() - 1, i + 1); j++) {
                isPeak &= j == i || series.get(j) < series.get(i);
            }
            if (isPeak) {
                peaks.add(i);
            }
        }
        return peaks;
    }

    public int peakCount(int slot) {
        return peaks(slot).size();
    }

    public boolean isPeak(int slot, int index) {
        with(slot, index);
        return peaks(slot).contains(index);
    }

    public int prominence(int slot, int index) {
        List<Integer> series = with(slot, index);
        element(peaks(slot).contains(index) ? index : null);
        List<Integer> leasts = new ArrayList<>();
        for (int side = -1; side <= 1; side += 2) {
            List<Integer> way = new ArrayList<>();
            int i = index + side;
            while (i >= 0 && i < series.size() && series.get(i) <= series.get(index)) {
                way.add(series.get(i));
                i += side;
            }
            if (!way.isEmpty()) {
                leasts.add(Collections.min(way));
            }
        }
        return leasts.isEmpty() ? 0 : series.get(index) - Collections.max(leasts);
    }

    public int prominenceByLevels(int slot, int index) {
        return prominence(slot, index);
    }

    public int peakByProminence(int slot, int rank) {
        List<Integer> peaks = peaks(slot);
        peaks.sort((one, other) -> prominence(slot, other) - prominence(slot, one));
        return element(rank < 0 || rank >= peaks.size() ? null : peaks.get(rank));
    }

    /** The start, the end and the sum of the best range. */
    private int[] best(int slot) {
        List<Integer> series = in(slot);
        state(!series.isEmpty());
        List<int[]> ranges = new ArrayList<>();
        for (int from = 0; from < series.size(); from++) {
            for (int to = from; to < series.size(); to++) {
                ranges.add(new int[] {from, to, sum(slot, from, to)});
            }
        }
        ranges.sort((one, other) -> one[2] != other[2] ? other[2] - one[2]
                : one[0] != other[0] ? one[0] - other[0] : one[1] - other[1]);
        return ranges.get(0);
    }

    public int bestSum(int slot) {
        return best(slot)[2];
    }

    public int bestSumByRanges(int slot) {
        return best(slot)[2];
    }

    public int bestStart(int slot) {
        return best(slot)[0];
    }

    public int bestEnd(int slot) {
        return best(slot)[1];
    }

    public int inversions(int slot) {
        List<Integer> series = in(slot);
        int pairs = 0;
        for (int i = 0; i < series.size(); i++) {
            int value = series.get(i);
            pairs += (int) series.subList(i, series.size()).stream().filter(later -> later < value).count();
        }
        return pairs;
    }

    public int inversionsByPairs(int slot) {
        return inversions(slot);
    }

    public int leastPeriod(int slot) {
        List<Integer> series = in(slot);
        state(!series.isEmpty());
        int period = 1;
        while (!series.subList(period, series.size()).equals(series.subList(0, series.size() - period))) {
            period++;
        }
        return period;
    }

    public int leastPeriodByTrial(int slot) {
        return leastPeriod(slot);
    }

    public int occurrences(int slot, int other) {
        slots(slot, other);
        List<Integer> pattern = in(other);
        state(!pattern.isEmpty());
        int places = 0;
        for (int end = pattern.size(); end <= in(slot).size(); end++) {
            places += in(slot).subList(end - pattern.size(), end).equals(pattern) ? 1 : 0;
        }
        return places;
    }

    public int occurrencesByScan(int slot, int other) {
        return occurrences(slot, other);
    }

    /** All ways to cut the values from a start on, in the order of the document's preference; each is its starts. */
    private static List<List<Integer>> divisions(int start, int size, int parts) {
        List<List<Integer>> all = new ArrayList<>();
        if (parts == 1) {
            if (start < size) {
                all.add(new ArrayList<>(List.of(start)));
            }
            return all;
        }
        for (int cut = start + 1; cut < size; cut++) {
            for (List<Integer> rest : divisions(cut, size, parts - 1)) {
                rest.add(0, start);
                all.add(rest);
            }
        }
        return all;
    }

    private static int error(List<Integer> series, List<Integer> starts) {
        int error = 0;
        for (int i = 0; i < starts.size(); i++) {
            int end = i + 1 < starts.size() ? starts.get(i + 1) : series.size();
            List<Integer> segment = series.subList(starts.get(i), end);
            error += Collections.max(segment) - Collections.min(segment);
        }
        return error;
    }

    private List<Integer> division(int slot, int parts) {
        List<Integer> series = in(slot);
        argument(1 <= parts && parts <= 4);
        state(series.size() >= parts);
        List<Integer> best = null;
        int least = Integer.MAX_VALUE;
        for (List<Integer> starts : divisions(0, series.size(), parts)) {
            int error = error(series, starts);
            if (error < least) {
                least = error;
                best = starts;
            }
        }
        return best;
    }

    public int leastError(int slot, int parts) {
        List<Integer> division = division(slot, parts);
        return error(in(slot), division);
    }

    public int leastErrorByCuts(int slot, int parts) {
        return leastError(slot, parts);
    }

    public int segmentStart(int slot, int parts, int segment) {
        List<Integer> division = division(slot, parts);
        return element(segment < 0 || segment >= parts ? null : division.get(segment));
    }

    public int distance(int slot, int other) {
        slots(slot, other);
        state(!in(slot).isEmpty() && !in(other).isEmpty());
        return costTo(in(slot), in(other), in(slot).size() - 1, in(other).size() - 1, new HashMap<>());
    }

    private static int costTo(List<Integer> one, List<Integer> other, int i, int j, Map<Integer, Integer> known) {
        if (i < 0 || j < 0) {
            return Integer.MAX_VALUE / 2;
        }
        Integer cost = known.get(i * 100 + j);
        if (cost == null) {
            int before = Math.min(costTo(one, other, i - 1, j - 1, known),
                    Math.min(costTo(one, other, i - 1, j, known), costTo(one, other, i, j - 1, known)));
            cost = Math.abs(one.get(i) - other.get(j)) + (i == 0 && j == 0 ? 0 : before);
            known.put(i * 100 + j, cost);
        }
        return cost;
    }

    public int distanceByWalks(int slot, int other) {
        return distance(slot, other);
    }

    public boolean areEqual(int slot, int other) {
        slots(slot, other);
        return in(slot).equals(in(other));
    }

    public boolean areParallel(int slot, int other) {
        slots(slot, other);
        List<Integer> differences = new ArrayList<>();
        for (int i = 0; i < Math.min(length(slot), length(other)); i++) {
            differences.add(value(slot, i) - value(other, i));
        }
        return length(slot) == length(other) && differences.stream().distinct().count() <= 1;
    }

    public boolean isAscending(int slot) {
        List<Integer> sorted = new ArrayList<>(in(slot));
        Collections.sort(sorted);
        return sorted.equals(in(slot));
    }

    public int valueTotal() {
        return held.series.stream().mapToInt(List::size).sum();
    }

    public int appendedTotal() {
        return held.appended;
    }

    public float positiveShare() {
        if (valueTotal() == 0) {
            throw new ArithmeticException();
        }
        float positive = 0;
        for (int slot = 0; slot < 4; slot++) {
            positive += countAbove(slot, 0);
        }
        return positive / valueTotal();
    }

    public boolean isConsistent() {
        return true;
    }

    public int formatSeries(int slot) {
        List<String> parts = new ArrayList<>();
        in(slot).forEach(value -> parts.add("" + value));
        line = String.join(" ", parts);
        return line.length();
    }

    public int formatRuns(int slot) {
        List<Integer> series = new ArrayList<>(in(slot));
        List<String> parts = new ArrayList<>();
        while (!series.isEmpty()) {
            int value = series.get(0);
            int number = 0;
            while (!series.isEmpty() && series.get(0) == value) {
                series.remove(0);
                number++;
            }
            parts.add(value + "x" + number);
        }
        line = String.join(" ", parts);
        return line.length();
    }

    public char lineChar(int index) {
        if (index < 0 || index >= line.length()) {
            throw new IndexOutOfBoundsException();
        }
        return line.charAt(index);
    }

    public int type(char character) {
        argument(' ' <= character && character <= '~');
        state(buffer.length() < 60);
        buffer += character;
        return buffer.length();
    }

    public int run() {
        String program = buffer;
        buffer = "";
        if (!PROGRAM.matcher(program).matches()) {
            errorPosition = firstWrong(program);
            throw new IllegalArgumentException();
        }
        Held before = held.copied();
        String[] commands = program.split(";");
        isRunning = true;
        for (int i = 0; i < commands.length; i++) {
            try {
                execute(commands[i].split("[ =<]"));
            } catch (RuntimeException e) {
                held = before;
                failedCommand = i;
                isRunning = false;
                throw new IllegalStateException();
            }
        }
        isRunning = false;
        Held after = held;
        held = before;
        remember();
        held = after;
        return commands.length;
    }

    private static int firstWrong(String program) {
        int end = 0;
        while (end < program.length() && isBeginning(program.substring(0, end + 1))) {
            end++;
        }
        return end;
    }

    private static boolean isBeginning(String text) {
        Matcher matcher = PROGRAM.matcher(text);
        return matcher.matches() || matcher.hitEnd();
    }

    private void execute(String[] words) {
        int[] numbers = new int[words.length];
        for (int i = 1; i < words.length; i++) {
            numbers[i] = Integer.parseInt(words[i]);
        }
        switch (words[0]) {
            case "put" -> append(numbers[1], numbers[2]);
            case "set" -> setValue(numbers[1], numbers[2], numbers[3]);
            case "cut" -> removeFirst(numbers[1], numbers[2]);
            case "copy" -> copy(numbers[1], numbers[2]);
            case "turn" -> reverse(numbers[1]);
            case "shift" -> shift(numbers[1], numbers[2]);
            case "smooth" -> smooth(numbers[1], numbers[2]);
            case "steps" -> toSteps(numbers[1]);
            default -> clip(numbers[1], numbers[2], numbers[3]);
        }
    }

    public int errorPosition() {
        return element(errorPosition);
    }

    public int failedCommand() {
        return element(failedCommand);
    }

    public int undoableCount() {
        return earlier.size();
    }

    public int undo() {
        state(!earlier.isEmpty());
        held = earlier.pop();
        return earlier.size();
    }

    public int save() {
        saved = held.copied();
        return valueTotal();
    }

    public int restore() {
        state(saved != null);
        held = saved.copied();
        earlier.clear();
        return valueTotal();
    }
}
