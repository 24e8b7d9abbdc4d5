import java.lang.reflect.InvocationTargetException;
import java.lang.reflect.Method;
import java.lang.reflect.Modifier;
import java.util.HashMap;
import java.util.List;
import java.util.Map;

/** Plays the calls of a script on an archive, or on the Model, and counts them. */
final class Player {
    private final Object object;
    private final Map<String, Method> methods = new HashMap<>();
    private int made;

    Player(Object object) {
        this.object = object;
        for (Method method : object.getClass().getDeclaredMethods()) {
            if (Modifier.isPublic(method.getModifiers())) {
                methods.put(method.getName(), method);
            }
        }
    }

    /** How many calls of the face were made so far; the document promises nothing behind the 512th. */
    int made() {
        return made;
    }

    /** Answers what the call answers, or a Raised. */
    Object play(Script.Call call) {
        List<Object> arguments = call.arguments();
        switch (call.name()) {
            case "fill":
                return fill((Integer) arguments.get(0), (String) arguments.get(1));
            case "series":
                return series((Integer) arguments.get(0));
            case "all":
                return series(0) + "|" + series(1) + "|" + series(2) + "|" + series(3);
            case "line":
                return line();
            case "type":
                return arguments.get(0) instanceof String text ? typed(text) : call("type", arguments.get(0));
            case "run":
                typed(arguments.isEmpty() ? "" : (String) arguments.get(0));
                return call("run");
            default:
                return call(call.name(), arguments.toArray());
        }
    }

    static Object due(Script.Call call) {
        boolean isOfValues = call.name().equals("series") || call.name().equals("all");
        return isOfValues ? Script.expanded((String) call.due()) : call.due();
    }

    private Object fill(int slot, String values) {
        Object answer = 0;
        for (String value : Script.expanded(values).split(" ")) {
            answer = call("append", slot, Integer.valueOf(value));
        }
        return answer;
    }

    private String series(int slot) {
        StringBuilder text = new StringBuilder();
        int length = (Integer) call("length", slot);
        for (int i = 0; i < length; i++) {
            text.append(i == 0 ? "" : " ").append(call("value", slot, i));
        }
        return text.toString();
    }

    private String line() {
        StringBuilder text = new StringBuilder();
        for (int i = 0; i < 512; i++) {
            Object answer = call("lineChar", i);
            if (answer instanceof Script.Raised) {
                break;
            }
            text.append(answer);
        }
        return text.toString();
    }

    private Object typed(String text) {
        Object answer = 0;
        for (char character : text.toCharArray()) {
            answer = call("type", character);
        }
        return answer;
    }

    private Object call(String name, Object... arguments) {
        Method method = methods.get(name);
        if (method == null) {
            throw new IllegalStateException("no method " + name);
        }
        made++;
        try {
            return method.invoke(object, arguments);
        } catch (InvocationTargetException e) {
            return Script.Raised.of(e.getCause());
        } catch (IllegalAccessException e) {
            throw new IllegalStateException(e);
        }
    }
}
