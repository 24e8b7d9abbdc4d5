import java.lang.reflect.InvocationTargetException;
import java.lang.reflect.Method;
import java.util.ArrayList;
import java.util.Arrays;
import java.util.Comparator;
import java.util.List;

/** Runs of calls drawn from a fixed sequence of numbers, each answer compared with the Model's. */
final class RandomRunsTest {
    private static final int RUNS = 1500;
    private static final int CALLS = 512;
    private static final String[] CHANGES = {"setValue", "removeFirst", "copy", "reverse", "shift", "smooth",
        "toSteps", "clip", "undo", "restore"};
    private static final String TYPED = "putsecopyturnshiftsmoothstepsclip 0123456789-=<;xD~";

    private long sequence;
    private final SeriesArchive archive = new SeriesArchive();
    private final Model model = new Model();
    private final int spread;
    private final StringBuilder calls = new StringBuilder();
    private boolean isWrong;

    private RandomRunsTest(int seed) {
        sequence = seed * 7919L + 17;
        spread = new int[] {1, 2, 5, 99}[seed % 4];
    }

    static void test() {
        List<Method> methods = new ArrayList<>();
        for (Method method : SeriesArchive.class.getDeclaredMethods()) {
            if (java.lang.reflect.Modifier.isPublic(method.getModifiers())) {
                methods.add(method);
            }
        }
        methods.sort(Comparator.comparing(Method::getName));
        Check.promise(50);
        for (int seed = 0; seed < RUNS; seed++) {
            RandomRunsTest run = new RandomRunsTest(seed);
            run.go(methods);
            Check.same("run " + seed + ":" + (run.isWrong ? run.calls : ""), run.isWrong, false);
            if (run.isWrong) {
                return;
            }
        }
    }

    private int below(int bound) {
        sequence = sequence * 6364136223846793005L + 1442695040888963407L;
        return (int) Math.floorMod(sequence >>> 33, (long) bound);
    }

    private void go(List<Method> methods) {
        int made = 0;
        while (made < CALLS - 61 && !isWrong) {
            int kind = below(10);
            if (kind < 3) {
                call("append", below(3) == 0 ? slot() : below(2), value());
                made++;
            } else if (kind == 3 && below(6) == 0) {
                made += program();
            } else {
                Method method = methods.get(below(methods.size()));
                boolean isRare = Arrays.asList(CHANGES).contains(method.getName()) && below(3) > 0;
                if (!isRare && !method.getName().equals("run")) {
                    call(method.getName(), arguments(method));
                    made++;
                }
            }
        }
    }

    private int program() {
        String text = below(4) == 0 ? typedAnyhow() : commands();
        for (char character : text.toCharArray()) {
            call("type", character);
        }
        call("run");
        return text.length() + 1;
    }

    private String typedAnyhow() {
        StringBuilder text = new StringBuilder(commands());
        for (int i = below(3); i >= 0; i--) {
            int place = below(text.length());
            char character = TYPED.charAt(below(TYPED.length()));
            switch (below(4)) {
                case 0 -> text.setCharAt(place, character);
                case 1 -> text.insert(place, character);
                case 2 -> text.setLength(Math.max(place, 1));
                default -> text.append(character);
            }
        }
        return text.substring(0, Math.min(60, text.length()));
    }

    private String commands() {
        StringBuilder text = new StringBuilder();
        for (int i = below(6); i >= 0; i--) {
            String command = command();
            if (text.length() + command.length() < 60) {
                text.append(text.length() == 0 ? "" : ";").append(command);
            }
        }
        return text.toString();
    }

    private String command() {
        int slot = below(12) == 0 ? below(10) : below(4);
        return switch (below(12)) {
            case 0, 1, 2 -> "put " + slot + " " + value();
            case 3 -> "set " + slot + " " + below(6) + "=" + value();
            case 4 -> "cut " + slot + " 0" + below(4);
            case 5 -> "copy " + slot + "<" + below(below(4) == 0 ? 10 : 4);
            case 6 -> "turn " + slot;
            case 7 -> "shift " + slot + " " + value();
            case 8 -> "smooth " + slot + " " + below(10);
            case 9 -> "steps " + slot;
            case 10 -> "clip " + slot + " -" + below(100) + " " + below(100);
            default -> "clip " + slot + " " + value() + " " + value();
        };
    }

    private int slot() {
        int drawn = below(40);
        return drawn == 0 ? -1 : drawn == 1 ? 4 : drawn == 2 ? Integer.MIN_VALUE : below(4);
    }

    private int value() {
        return below(2 * spread + 1) - spread;
    }

    private int number() {
        switch (below(16)) {
            case 0:
                return new int[] {Integer.MIN_VALUE, Integer.MAX_VALUE, -100, 100, -1, 19, 20, 21}[below(8)];
            case 1:
            case 2:
                return value();
            case 3:
            case 4:
                return below(22) - 1;
            default:
                return below(8);
        }
    }

    private Object[] arguments(Method method) {
        Object[] arguments = new Object[method.getParameterCount()];
        String name = method.getName();
        boolean isOfTwo = Arrays.asList("copy", "occurrences", "occurrencesByScan", "distance", "distanceByWalks",
                "areEqual", "areParallel").contains(name);
        for (int i = 0; i < arguments.length; i++) {
            boolean isSlot = i == 0 && !name.equals("lineChar") || i == 1 && isOfTwo;
            arguments[i] = isSlot ? (Object) slot() : (Object) number();
        }
        if (name.equals("type")) {
            arguments[0] = (char) (below(8) == 0 ? below(65536) : ' ' + below(95));
        }
        if (name.equals("setValue") || name.equals("clip") && below(2) == 0) {
            arguments[2] = value();
        }
        return arguments;
    }

    private void call(String name, Object... arguments) {
        Object got = answer(archive, name, arguments);
        Object due = answer(model, name, arguments);
        calls.append(' ').append(name).append(Arrays.toString(arguments)).append('=').append(got);
        if (!isWrong && !got.equals(due)) {
            isWrong = true;
            calls.append(", due is ").append(due);
        }
    }

    private static Object answer(Object object, String name, Object[] arguments) {
        for (Method method : object.getClass().getDeclaredMethods()) {
            if (method.getName().equals(name) && java.lang.reflect.Modifier.isPublic(method.getModifiers())) {
                try {
                    return method.invoke(object, arguments);
                } catch (InvocationTargetException e) {
                    return e.getCause().getClass();
                } catch (IllegalAccessException e) {
                    throw new IllegalStateException(e);
                }
            }
        }
        throw new IllegalStateException(name);
    }
}
