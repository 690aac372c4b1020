/** Compares answers with those that are due, prints each that differs, and ends the test. */
final class Due {
    private static int wrong = 0;
    private static String part = "";

    private Due() {
    }

    static void part(String name) {
        part = name;
    }

    static void same(String call, int got, int want) {
        if (got != want) {
            wrong++;
            System.out.println(part + ": " + call + " answered " + got + ", due is " + want);
        }
    }

    static void same(String call, boolean got, boolean want) {
        same(call, got ? 1 : 0, want ? 1 : 0);
    }

    /** Texts of many lines: prints the first line that differs. */
    static void sameText(String what, String got, String want) {
        if (got.equals(want)) {
            return;
        }
        String[] gotLines = got.split("\n");
        String[] wantLines = want.split("\n");
        int line = 0;
        while (line < gotLines.length && line < wantLines.length && gotLines[line].equals(wantLines[line])) {
            line++;
        }
        wrong++;
        System.out.println(part + ": " + what + ": '" + lineOf(gotLines, line) + "', due is '" + lineOf(wantLines, line) + "'");
    }

    private static String lineOf(String[] lines, int line) {
        return line < lines.length ? lines[line] : "";
    }

    static boolean anyWrong() {
        return wrong != 0;
    }

    static void end() {
        System.out.println(wrong == 0 ? "all answers are as due" : wrong + " answers are not as due");
        if (wrong != 0) {
            System.exit(1);
        }
    }
}
