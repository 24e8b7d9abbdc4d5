import java.util.ArrayList;
import java.util.List;

/**
 * Looks for traces of refused calls: a run of calls with them and one without them leave the same archive
 * behind. A refused run may leave the stored numbers, and the empty buffer.
 */
final class Traces {
    private static final String[] PROBES = {"all() valueTotal() appendedTotal() undoableCount()", "line()",
        "type('x')", "restore() all() appendedTotal() undoableCount()"};
    private static final String STORED_NUMBERS = "errorPosition() failedCommand()";

    private Traces() {
    }

    static void compare(List<Script.Call> calls, String sentence) {
        List<Script.Call> accepted = new ArrayList<>();
        boolean hasRefusedRun = false;
        for (Script.Call call : calls) {
            if (!call.isRefused()) {
                accepted.add(call);
            } else if (call.name().equals("run")) {
                hasRefusedRun = true;
                dropTyped(accepted);
            }
        }
        if (accepted.size() == calls.size()) {
            return;
        }
        for (String probe : PROBES) {
            probe(calls, accepted, probe, sentence);
        }
        if (!hasRefusedRun) {
            probe(calls, accepted, STORED_NUMBERS, sentence);
        }
        StringBuilder undoing = new StringBuilder();
        for (int i = 0; i < 9; i++) {
            undoing.append("undo() ");
            probe(calls, accepted, undoing + "all() appendedTotal()", sentence);
        }
    }

    /** What was typed for a refused run is gone, as if it had not been typed. */
    private static void dropTyped(List<Script.Call> accepted) {
        for (int i = accepted.size() - 1; i >= 0 && !accepted.get(i).name().equals("run"); i--) {
            if (accepted.get(i).name().equals("type")) {
                accepted.remove(i);
            }
        }
    }

    private static void probe(List<Script.Call> calls, List<Script.Call> accepted, String probe, String sentence) {
        Check.same("\"" + sentence + "\", then " + probe, answers(calls, probe), answers(accepted, probe));
    }

    private static List<Object> answers(List<Script.Call> calls, String probe) {
        Player player = new Player(new SeriesArchive());
        calls.forEach(player::play);
        List<Object> answers = new ArrayList<>();
        Script.read(probe).forEach(call -> answers.add(player.play(call)));
        return answers;
    }
}
