import java.io.IOException;
import java.io.UncheckedIOException;
import java.nio.file.Files;
import java.nio.file.Path;
import java.nio.file.Paths;
import java.util.ArrayList;
import java.util.List;
import java.util.TreeSet;
import java.util.stream.Collectors;
import java.util.stream.Stream;

/**
 * The sentences of ../shared/DOC.md, one by one. The files under src/test/sentences quote each sentence of what
 * it is, of the terms and of the promises, with the calls that it decides; a sentence without calls is a fault of
 * the tests.
 */
final class SentencesTest {
    private static final Path DOCUMENT = Paths.get("../shared/DOC.md");
    private static final Path RUNS = Paths.get("src/test/sentences");
    private static final int LAST_CALL = 512;

    private final TreeSet<String> due = new TreeSet<>();
    private final TreeSet<String> quoted = new TreeSet<>();
    private String section = "";
    private String sentence = "";
    private boolean isQuoting;
    private List<Script.Call> calls = new ArrayList<>();

    private SentencesTest() {
    }

    static void test() {
        SentencesTest test = new SentencesTest();
        test.readDocument();
        for (Path file : files()) {
            for (String line : lines(file)) {
                test.readLine(line);
            }
            test.endRun();
        }
        test.due.removeAll(test.quoted);
        Check.same("the sentences without a test", test.due, new TreeSet<String>());
    }

    private static List<Path> files() {
        try (Stream<Path> files = Files.list(RUNS)) {
            return files.sorted().collect(Collectors.toList());
        } catch (IOException e) {
            throw new UncheckedIOException(e);
        }
    }

    private static List<String> lines(Path file) {
        try {
            return Files.readAllLines(file);
        } catch (IOException e) {
            throw new UncheckedIOException(e);
        }
    }

    // The document's sentences

    private void readDocument() {
        String heading = "";
        StringBuilder paragraph = new StringBuilder();
        for (String line : lines(DOCUMENT)) {
            if (line.isEmpty() || line.startsWith("## ") || line.startsWith("- ")) {
                addSentences(heading, paragraph.toString());
                paragraph.setLength(0);
            }
            if (line.startsWith("## ")) {
                heading = line.substring(3);
            } else {
                paragraph.append(line).append(' ');
            }
        }
        addSentences(heading, paragraph.toString());
    }

    private void addSentences(String heading, String paragraph) {
        boolean isPromised = heading.equals("What it is") || heading.equals("Terms") || heading.startsWith("Promise ");
        if (!isPromised) {
            return;
        }
        String text = paragraph.trim().replaceFirst("^`[^`]*`: (?=[A-Z])", "");
        for (String each : text.split("(?<=\\.) (?=[A-Z])")) {
            // "Ranges and windows." is the name of a paragraph
            if (!each.isEmpty() && !each.matches("\\w+( and \\w+)?\\.")) {
                due.add(heading + " > " + each);
            }
        }
    }

    // The runs of calls

    private void readLine(String line) {
        if (line.startsWith("## ")) {
            endRun();
            section = line.substring(3);
            Check.promise(section.startsWith("Promise ") ? Integer.parseInt(section.split("[ :]")[1]) : 0);
        } else if (line.startsWith("> ")) {
            endRun();
            sentence = isQuoting ? sentence + " " + line.substring(2) : line.substring(2);
        } else if (line.equals("--")) {
            endRun();
        } else if (!line.isEmpty() && !line.startsWith("//")) {
            calls.addAll(Script.read(line));
        }
        isQuoting = line.startsWith("> ");
    }

    private void endRun() {
        if (calls.isEmpty()) {
            return;
        }
        String name = section + " > " + sentence;
        if (quoted.add(name)) {
            Check.same("the document says: " + name, due.contains(name), true);
        }
        play(new Player(new SeriesArchive()), sentence);
        play(new Player(new Model()), "the model, " + sentence);
        Traces.compare(calls, sentence);
        calls = new ArrayList<>();
    }

    private void play(Player player, String name) {
        for (int i = 0; i < calls.size(); i++) {
            Script.Call call = calls.get(i);
            Object answer = player.play(call);
            String what = "\"" + name + "\", call " + i + ", " + call;
            if (call.due() == null) {
                Check.same(what + " throws", answer instanceof Script.Raised, false);
            } else {
                Check.same(what, answer, Player.due(call));
            }
        }
        Check.same("\"" + name + "\" stays within 512 calls", player.made() <= LAST_CALL, true);
    }
}
