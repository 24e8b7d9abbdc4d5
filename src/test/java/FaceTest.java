import java.io.IOException;
import java.io.UncheckedIOException;
import java.lang.reflect.Constructor;
import java.lang.reflect.Field;
import java.lang.reflect.Method;
import java.lang.reflect.Modifier;
import java.nio.file.Files;
import java.nio.file.Path;
import java.nio.file.Paths;
import java.util.ArrayList;
import java.util.List;
import java.util.TreeSet;

/** The public face: each method with its types and exceptions, and nothing else that others can reach. */
final class FaceTest {
    private static final Path DOCUMENT = Paths.get("../shared/DOC.md");
    private static final Path SOURCE = Paths.get("src/main/java/SeriesArchive.java");
    private static final String[] METHODS = {
        "int append(int,int) Index Argument State", "int setValue(int,int,int) Index Argument",
        "int removeFirst(int,int) Index Argument", "int copy(int,int) Index", "int reverse(int) Index",
        "int shift(int,int) Index Argument State", "int smooth(int,int) Index Argument",
        "int toSteps(int) Index State", "int clip(int,int,int) Index Argument", "int length(int) Index",
        "int value(int,int) Index", "int sum(int,int,int) Index", "int sumByTree(int,int,int) Index",
        "int minimum(int,int,int) Index", "int maximum(int,int,int) Index", "int countAbove(int,int) Index",
        "int valueByRank(int,int) Index NoElement", "double mean(int) Index Arithmetic",
        "int windowMaximum(int,int,int) Index Argument NoElement",
        "int windowMaximumByScan(int,int,int) Index Argument NoElement",
        "int nextGreater(int,int) Index NoElement", "int nextGreaterByScan(int,int) Index NoElement",
        "int peakCount(int) Index", "boolean isPeak(int,int) Index", "int prominence(int,int) Index NoElement",
        "int prominenceByLevels(int,int) Index NoElement", "int peakByProminence(int,int) Index NoElement",
        "int bestSum(int) Index State", "int bestSumByRanges(int) Index State", "int bestStart(int) Index State",
        "int bestEnd(int) Index State", "int inversions(int) Index", "int inversionsByPairs(int) Index",
        "int leastPeriod(int) Index State", "int leastPeriodByTrial(int) Index State",
        "int occurrences(int,int) Index State", "int occurrencesByScan(int,int) Index State",
        "int leastError(int,int) Index Argument State", "int leastErrorByCuts(int,int) Index Argument State",
        "int segmentStart(int,int,int) Index Argument State NoElement", "int distance(int,int) Index State",
        "int distanceByWalks(int,int) Index State", "boolean areEqual(int,int) Index",
        "boolean areParallel(int,int) Index", "boolean isAscending(int) Index", "int valueTotal()",
        "int appendedTotal()", "float positiveShare() Arithmetic", "boolean isConsistent()",
        "int formatSeries(int) Index", "int formatRuns(int) Index", "char lineChar(int) Index",
        "int type(char) Argument State", "int run() Argument State", "int errorPosition() NoElement",
        "int failedCommand() NoElement", "int undoableCount()", "int undo() State", "int save()",
        "int restore() State"};

    private FaceTest() {
    }

    static void test() {
        Check.promise(1);
        TreeSet<String> got = new TreeSet<>();
        TreeSet<String> names = new TreeSet<>();
        for (Method method : SeriesArchive.class.getDeclaredMethods()) {
            if (!Modifier.isPrivate(method.getModifiers()) && !method.isSynthetic()) {
                got.add(signature(method));
                names.add(method.getName());
                Check.same(method + " is plain", method.getModifiers(), Modifier.PUBLIC);
            }
        }
        TreeSet<String> due = new TreeSet<>(java.util.Arrays.asList(METHODS));
        Check.same("the methods", got, due);
        for (Method method : SeriesArchive.class.getDeclaredMethods()) {
            boolean isPrivate = Modifier.isPrivate(method.getModifiers());
            Check.same(method + " has a public name", isPrivate && names.contains(method.getName()), false);
        }
        constructorAndFields();
        sourceAgreesWithDocument();
    }

    private static void constructorAndFields() {
        Constructor<?>[] constructors = SeriesArchive.class.getDeclaredConstructors();
        Check.same("constructors", constructors.length, 1);
        Check.same("constructor", constructors[0].toString(), "public SeriesArchive()");
        Check.same("class", SeriesArchive.class.getModifiers(), Modifier.PUBLIC | Modifier.FINAL);
        for (Field field : SeriesArchive.class.getDeclaredFields()) {
            int modifiers = field.getModifiers();
            Check.same(field + " is private", Modifier.isPrivate(modifiers), true);
            boolean isChanging = Modifier.isStatic(modifiers) && !Modifier.isFinal(modifiers);
            Check.same(field + " is static and changing", isChanging, false);
        }
    }

    private static String signature(Method method) {
        StringBuilder text = new StringBuilder();
        text.append(method.getReturnType()).append(' ').append(method.getName()).append('(');
        for (Class<?> type : method.getParameterTypes()) {
            text.append(text.charAt(text.length() - 1) == '(' ? "" : ",").append(type);
        }
        text.append(')');
        for (Class<?> type : method.getExceptionTypes()) {
            text.append(' ').append(Script.Raised.shortened(type.getSimpleName()));
        }
        return text.toString();
    }

    /** The face is written in the class as in the document, with the names of its parameters. */
    private static void sourceAgreesWithDocument() {
        String source = String.join(" ", lines(SOURCE)).replaceAll("\\s+", " ");
        List<String> documented = documentedMethods();
        Check.same("the number of methods", documented.size(), METHODS.length);
        for (String method : documented) {
            Check.same("the source has " + method, source.contains("public " + method + " {"), true);
        }
        // each promise says its method once more, as the face does
        for (String line : lines(DOCUMENT)) {
            if (line.startsWith("`") && line.contains("`: ")) {
                String method = line.substring(1, line.indexOf("`: "));
                boolean isConstructor = method.equals("SeriesArchive()");
                Check.same("the face has " + method, isConstructor || documented.contains(method), true);
            }
        }
    }

    /** Each method of the document's face, without "public" and the semicolon. */
    static List<String> documentedMethods() {
        List<String> methods = new ArrayList<>();
        for (String line : lines(DOCUMENT)) {
            if (line.startsWith("    public ") && !line.equals("    public SeriesArchive();")) {
                methods.add(line.substring("    public ".length(), line.length() - 1));
            }
        }
        return methods;
    }

    private static List<String> lines(Path file) {
        try {
            return Files.readAllLines(file);
        } catch (IOException e) {
            throw new UncheckedIOException(e);
        }
    }
}
