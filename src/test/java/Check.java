import java.util.Arrays;
import java.util.Objects;
import java.util.TreeSet;

/** Compares answers with the ones that are due, and remembers which promises were looked at. */
final class Check {
    interface Call {
        Object answer();
    }

    static final int[] NO_SLOTS = {-1, 4, 9, Integer.MIN_VALUE, Integer.MAX_VALUE};

    private static final TreeSet<Integer> PROMISES = new TreeSet<>();
    private static int promise;
    private static int checks;
    private static int wrong;

    private Check() {
    }

    /** The checks that follow belong to this promise. */
    static void promise(int number) {
        promise = number;
    }

    static void same(String what, Object got, Object due) {
        count();
        if (!Objects.equals(got, due)) {
            wrong++;
            System.out.println("promise " + promise + ": " + what + " answered " + got + ", due is " + due);
        }
    }

    static void raises(String what, Class<? extends RuntimeException> due, Call call) {
        count();
        String got;
        try {
            got = "the answer " + call.answer();
        } catch (RuntimeException e) {
            if (e.getClass() == due) {
                return;
            }
            got = e.getClass().getName();
        }
        wrong++;
        System.out.println("promise " + promise + ": " + what + " gave " + got + ", due is " + due.getName());
    }

    static void raisesIndex(String what, Call call) {
        raises(what, IndexOutOfBoundsException.class, call);
    }

    static void raisesArgument(String what, Call call) {
        raises(what, IllegalArgumentException.class, call);
    }

    static void raisesState(String what, Call call) {
        raises(what, IllegalStateException.class, call);
    }

    static void raisesNoElement(String what, Call call) {
        raises(what, java.util.NoSuchElementException.class, call);
    }

    static void raisesArithmetic(String what, Call call) {
        raises(what, ArithmeticException.class, call);
    }

    private static void count() {
        checks++;
        PROMISES.add(promise);
    }

    /** Ends the run with 1 if an answer was wrong or a promise has no check. */
    static void finish(int promises) {
        for (int number = 1; number <= promises; number++) {
            if (!PROMISES.contains(number)) {
                wrong++;
                System.out.println("promise " + number + " has no check");
            }
        }
        System.out.println(checks + " checks, " + wrong + " wrong");
        if (wrong != 0) {
            System.exit(1);
        }
    }

    // Archives and what they hold

    static SeriesArchive archive(int... values) {
        SeriesArchive archive = new SeriesArchive();
        fill(archive, 0, values);
        return archive;
    }

    static SeriesArchive archiveOfTwo(int[] first, int[] second) {
        SeriesArchive archive = archive(first);
        fill(archive, 1, second);
        return archive;
    }

    static void fill(SeriesArchive archive, int slot, int... values) {
        for (int value : values) {
            archive.append(slot, value);
        }
    }

    static int[] times(int number, int value) {
        int[] values = new int[number];
        Arrays.fill(values, value);
        return values;
    }

    static int[] upTo(int last) {
        int[] values = new int[last + 1];
        for (int i = 0; i <= last; i++) {
            values[i] = i;
        }
        return values;
    }

    static String series(SeriesArchive archive, int slot) {
        StringBuilder text = new StringBuilder();
        for (int i = 0; i < archive.length(slot); i++) {
            text.append(i == 0 ? "" : " ").append(archive.value(slot, i));
        }
        return text.toString();
    }

    static String all(SeriesArchive archive) {
        return series(archive, 0) + "|" + series(archive, 1) + "|" + series(archive, 2) + "|" + series(archive, 3)
                + "|" + archive.appendedTotal() + "|" + archive.undoableCount();
    }

    static String line(SeriesArchive archive, int length) {
        StringBuilder text = new StringBuilder();
        for (int i = 0; i < length; i++) {
            text.append(archive.lineChar(i));
        }
        return text.toString();
    }

    static int type(SeriesArchive archive, String text) {
        int typed = 0;
        for (char character : text.toCharArray()) {
            typed = archive.type(character);
        }
        return typed;
    }

    static int run(SeriesArchive archive, String program) {
        type(archive, program);
        return archive.run();
    }
}
