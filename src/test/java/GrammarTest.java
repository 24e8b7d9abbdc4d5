/**
 * The error position, character by character: behind each beginning of each command stands the list of the
 * characters that may follow, and every character from ' ' to '~' is tried there.
 */
final class GrammarTest {
    private static final String DIGITS = "0123456789";

    /** A beginning, and what may follow; "." among these means that the program may end here. */
    private static final String[][] BEGINNINGS = {
        {"", "psct"}, {"p", "u"}, {"pu", "t"}, {"put", " "}, {"put ", DIGITS}, {"put 0", " "},
        {"put 0 ", "-" + DIGITS}, {"put 0 -", DIGITS}, {"put 0 9", DIGITS + ";."}, {"put 0 99", ";."},
        {"put 0 -9", DIGITS + ";."}, {"put 0 -99", ";."},
        {"s", "ehmt"}, {"se", "t"}, {"set", " "}, {"set ", DIGITS}, {"set 3", " "}, {"set 3 ", DIGITS},
        {"set 3 0", DIGITS + "="}, {"set 3 00", "="}, {"set 3 0=", "-" + DIGITS}, {"set 3 00=", "-" + DIGITS},
        {"set 3 0=-", DIGITS}, {"set 3 0=1", DIGITS + ";."}, {"set 3 0=10", ";."}, {"set 3 0=-10", ";."},
        {"c", "uol"}, {"cu", "t"}, {"cut", " "}, {"cut ", DIGITS}, {"cut 9", " "}, {"cut 9 ", DIGITS},
        {"cut 9 5", DIGITS + ";."}, {"cut 9 55", ";."},
        {"co", "p"}, {"cop", "y"}, {"copy", " "}, {"copy ", DIGITS}, {"copy 0", "<"}, {"copy 0<", DIGITS},
        {"copy 0<0", ";."},
        {"t", "u"}, {"tu", "r"}, {"tur", "n"}, {"turn", " "}, {"turn ", DIGITS}, {"turn 8", ";."},
        {"sh", "i"}, {"shi", "f"}, {"shif", "t"}, {"shift", " "}, {"shift ", DIGITS}, {"shift 1", " "},
        {"shift 1 ", "-" + DIGITS}, {"shift 1 -", DIGITS}, {"shift 1 0", DIGITS + ";."}, {"shift 1 -00", ";."},
        {"sm", "o"}, {"smo", "o"}, {"smoo", "t"}, {"smoot", "h"}, {"smooth", " "}, {"smooth ", DIGITS},
        {"smooth 2", " "}, {"smooth 2 ", DIGITS}, {"smooth 2 1", ";."},
        {"st", "e"}, {"ste", "p"}, {"step", "s"}, {"steps", " "}, {"steps ", DIGITS}, {"steps 0", ";."},
        {"cl", "i"}, {"cli", "p"}, {"clip", " "}, {"clip ", DIGITS}, {"clip 7", " "},
        {"clip 7 ", "-" + DIGITS}, {"clip 7 -", DIGITS}, {"clip 7 1", DIGITS + " "}, {"clip 7 12", " "},
        {"clip 7 -12", " "}, {"clip 7 1 ", "-" + DIGITS}, {"clip 7 12 -", DIGITS},
        {"clip 7 1 2", DIGITS + ";."}, {"clip 7 1 -2", DIGITS + ";."}, {"clip 7 1 22", ";."},
        {"clip 7 1 -22", ";."}};

    private GrammarTest() {
    }

    static void test() {
        Check.promise(56);
        for (String[] each : BEGINNINGS) {
            behind(each[0], each[1]);
            behind("turn 0;" + each[0], each[1]);
            behind("put 9 -1;clip 9 99 -99;" + each[0], each[1]);
        }
    }

    private static void behind(String beginning, String followers) {
        boolean mayEnd = followers.endsWith(".");
        String next = followers.replace(".", "");
        Check.same("\"" + beginning + "\"", errorIn(beginning), mayEnd ? -1 : beginning.length());
        for (char character = ' '; character <= '~'; character++) {
            String text = beginning + character;
            int error = errorIn(text);
            if (next.indexOf(character) < 0) {
                Check.same("\"" + text + "\"", error, beginning.length());
            } else {
                Check.same("\"" + text + "\" goes on", error == -1 || error == text.length(), true);
            }
        }
    }

    /** -1 if the program is well formed, whether a command fails or not. */
    private static int errorIn(String program) {
        SeriesArchive archive = new SeriesArchive();
        try {
            Check.run(archive, program);
        } catch (IllegalArgumentException e) {
            return archive.errorPosition();
        } catch (IllegalStateException e) {
            archive.failedCommand();
        }
        return -1;
    }
}
