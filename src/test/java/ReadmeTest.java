import java.io.IOException;
import java.io.UncheckedIOException;
import java.nio.file.Files;
import java.nio.file.Path;
import java.nio.file.Paths;
import java.util.ArrayList;
import java.util.List;
import java.util.TreeSet;
import java.util.regex.Matcher;
import java.util.regex.Pattern;

/** README.md: each call that it shows has the answer that it shows, and each method of the document stands there. */
final class ReadmeTest {
    private static final Path README = Paths.get("README.md");
    private static final int LAST_CALL = 512;
    private static final String MAKING = "SeriesArchive archive = new SeriesArchive();";
    private static final Pattern CALL = Pattern.compile(
            "archive\\.(\\w+\\([^)]*\\)); +// (throws )?('.'|[^ :]+)(?:: .+)?");
    private static final Pattern TYPING = Pattern.compile("for \\(char c : (\"[^\"]*\")\\.toCharArray\\(\\)\\) \\{");

    private final List<Script.Call> calls = new ArrayList<>();
    private final TreeSet<String> shown = new TreeSet<>();
    private boolean isTyping;

    private ReadmeTest() {
    }

    static void test() {
        Check.promise(0);
        ReadmeTest test = new ReadmeTest();
        boolean isExample = false;
        for (String line : lines()) {
            if (line.startsWith("```")) {
                isExample = line.equals("```java");
            } else if (isExample) {
                test.readExample(line);
            }
        }
        Check.same("the README's first example makes the archive", test.calls.isEmpty(), false);
        test.play("the README", new Player(new SeriesArchive()));
        test.play("the README, on the model", new Player(new Model()));
        test.listsEachMethod();
    }

    private static List<String> lines() {
        try {
            return Files.readAllLines(README);
        } catch (IOException e) {
            throw new UncheckedIOException(e);
        }
    }

    /** One archive is made, and all examples are one run of calls on it. */
    private void readExample(String line) {
        if (line.equals(MAKING)) {
            Check.same("the README makes one archive, first of all", calls.isEmpty(), true);
            return;
        }
        if (isTyping && (line.equals("    archive.type(c);") || line.equals("}"))) {
            isTyping = !line.equals("}");
            return;
        }
        Matcher typing = TYPING.matcher(line);
        Matcher call = CALL.matcher(line);
        if (typing.matches()) {
            isTyping = true;
            calls.addAll(Script.read("type(" + typing.group(1) + ")"));
        } else if (call.matches()) {
            String answer = call.group(2) == null ? "=" + call.group(3) : "!" + Script.Raised.shortened(call.group(3));
            calls.addAll(Script.read(call.group(1) + answer));
            shown.add(call.group(1).substring(0, call.group(1).indexOf('(')));
        } else {
            Check.same("the README's line", line, "a call with its answer");
        }
    }

    private void play(String name, Player player) {
        for (Script.Call call : calls) {
            Object answer = player.play(call);
            if (call.due() != null) {
                Check.same(name + " shows " + call, answer, call.due());
            }
        }
        Check.same(name + " stays within 512 calls", player.made() <= LAST_CALL, true);
    }

    private void listsEachMethod() {
        String text = String.join("\n", lines());
        for (String method : FaceTest.documentedMethods()) {
            String name = method.replaceFirst("\\(.*", "").replaceFirst(".* ", "");
            String parameters = method.replaceFirst("[^(]*\\(", "").replaceFirst("\\).*", "");
            String call = "`" + name + "(" + parameters.replaceAll("\\w+ (\\w+)", "$1") + ")`";
            Check.same("the README lists " + call, text.contains(call), true);
            Check.same("the README shows a call of " + name, shown.contains(name), true);
        }
    }
}
