import java.util.ArrayList;
import java.util.List;

/**
 * Reads runs of calls such as: append(0, 5)=1 value(0, 1)!Index series(0)="5". A call may stand without an
 * answer; then it must not throw. A line "each -1 4 MIN: length($)!Index" stands for one run for each number.
 */
final class Script {
    /** A call with the answer that is due, which is null if any answer will do. */
    record Call(String name, List<Object> arguments, Object due) {
        boolean isRefused() {
            return due instanceof Raised;
        }

        @Override
        public String toString() {
            String text = arguments.toString();
            return name + "(" + text.substring(1, text.length() - 1) + ")";
        }
    }

    /** An exception, by the short name that the scripts use. */
    record Raised(String name) {
        static Raised of(Throwable exception) {
            return new Raised(shortened(exception.getClass().getSimpleName()));
        }

        static String shortened(String name) {
            return name.replace("OutOfBounds", "").replace("Illegal", "").replace("NoSuch", "No")
                    .replace("Exception", "");
        }
    }

    private static final String PLACE = "$";

    private final String text;
    private int position;

    private Script(String text) {
        this.text = text;
    }

    static List<Call> read(String line) {
        List<Call> calls = new ArrayList<>();
        if (!line.startsWith("each ")) {
            new Script(line).readCalls(calls);
            return calls;
        }
        int colon = line.indexOf(": ");
        List<Call> pattern = new ArrayList<>();
        new Script(line.substring(colon + 2)).readCalls(pattern);
        for (String word : expanded(line.substring(5, colon)).split(" ")) {
            Object number = literal(word);
            for (Call call : pattern) {
                List<Object> arguments = new ArrayList<>();
                call.arguments().forEach(argument -> arguments.add(filled(argument, number)));
                calls.add(new Call(call.name(), arguments, filled(call.due(), number)));
            }
        }
        return calls;
    }

    /** Writes out "2..5" as "2 3 4 5" and "7*3" as "7 7 7". */
    static String expanded(String values) {
        StringBuilder written = new StringBuilder();
        for (String word : values.split("(?<=[ |])|(?=[ |])")) {
            if (word.matches("-?\\d+\\.\\.-?\\d+")) {
                String[] ends = word.split("\\.\\.");
                int last = Integer.parseInt(ends[1]);
                for (int i = Integer.parseInt(ends[0]); i <= last; i++) {
                    written.append(i).append(i < last ? " " : "");
                }
            } else if (word.matches("-?\\d+\\*\\d+")) {
                String[] parts = word.split("\\*");
                written.append((parts[0] + " ").repeat(Integer.parseInt(parts[1])).trim());
            } else {
                written.append(word);
            }
        }
        return written.toString();
    }

    private static Object filled(Object place, Object number) {
        if (place instanceof String string) {
            return string.equals(PLACE) ? number : string.replace(PLACE, number.toString());
        }
        return place;
    }

    private void readCalls(List<Call> calls) {
        skipBlanks();
        while (position < text.length()) {
            calls.add(readCall());
            skipBlanks();
        }
    }

    private Call readCall() {
        int start = position;
        while (Character.isLetter(current())) {
            position++;
        }
        String name = text.substring(start, position);
        need('(');
        List<Object> arguments = new ArrayList<>();
        while (current() != ')') {
            arguments.add(readLiteral());
            if (current() == ',') {
                position++;
            }
            skipBlanks();
        }
        need(')');
        return new Call(name, arguments, readDue());
    }

    private Object readDue() {
        char sign = current();
        if (sign != '=' && sign != '!') {
            return null;
        }
        position++;
        return sign == '=' ? readLiteral() : new Raised(readWord());
    }

    private Object readLiteral() {
        if (current() == '"') {
            int end = text.indexOf('"', position + 1);
            String string = text.substring(position + 1, end);
            position = end + 1;
            return string;
        }
        if (current() == '\'') {
            position += 3;
            return text.charAt(position - 2);
        }
        return literal(readWord());
    }

    private String readWord() {
        int start = position;
        while (" ,)".indexOf(current()) < 0) {
            position++;
        }
        return text.substring(start, position);
    }

    private static Object literal(String word) {
        switch (word) {
            case "MIN":
                return Integer.MIN_VALUE;
            case "MAX":
                return Integer.MAX_VALUE;
            case "true":
                return true;
            case "false":
                return false;
            case PLACE:
                return PLACE;
            default:
                if (word.startsWith("#")) {
                    return (char) Integer.parseInt(word.substring(1));
                }
                if (word.endsWith("f")) {
                    return Float.valueOf(word);
                }
                return word.indexOf('.') < 0 ? (Object) Integer.valueOf(word) : (Object) Double.valueOf(word);
        }
    }

    private char current() {
        return position < text.length() ? text.charAt(position) : ' ';
    }

    private void need(char sign) {
        if (current() != sign) {
            throw new IllegalStateException("no " + sign + " at " + position + " in: " + text);
        }
        position++;
    }

    private void skipBlanks() {
        while (position < text.length() && text.charAt(position) == ' ') {
            position++;
        }
    }
}
