import java.lang.reflect.Method;
import java.nio.file.Files;
import java.nio.file.Path;
import java.util.regex.Matcher;
import java.util.regex.Pattern;

/** Every call of README.md's example answers what its line says; run from the project's folder, as .ci/run does. */
public final class ReadmeTest {
    private static final String CALL = "sheet.";
    private static final Pattern CALL_LINE = Pattern.compile("sheet\\.(\\w+)\\(([^)]*)\\);\\s*// ([^:]+)(:.*)?");

    public static void main(String[] args) throws Exception {
        Due.part("README.md");
        WhatIfTables sheet = new WhatIfTables();
        int calls = 0;
        for (String line : Files.readAllLines(Path.of("README.md"))) {
            if (line.startsWith(CALL)) {
                check(sheet, line);
                calls++;
            }
        }
        Due.same("there are calls in the example", calls > 0, true);
        Due.end();
    }

    private static void check(WhatIfTables sheet, String line) throws Exception {
        Matcher parts = CALL_LINE.matcher(line);
        boolean readable = parts.matches();
        Due.same("'" + line + "' says what it answers", readable, true);
        if (readable) {
            Object answer = call(sheet, parts.group(1), parts.group(2));
            Due.sameText(line, answer == null ? "-" : answer.toString(), parts.group(3));
        }
    }

    private static Object call(WhatIfTables sheet, String name, String argumentText) throws Exception {
        String[] words = argumentText.isEmpty() ? new String[0] : argumentText.split(", ");
        Object[] arguments = new Object[words.length];
        Class<?>[] types = new Class<?>[words.length];
        for (int k = 0; k < words.length; k++) {
            boolean truth = words[k].equals("true") || words[k].equals("false");
            types[k] = truth ? boolean.class : int.class;
            arguments[k] = truth ? (Object) Boolean.valueOf(words[k]) : (Object) Integer.valueOf(words[k]);
        }
        Method method = WhatIfTables.class.getMethod(name, types);
        return method.invoke(sheet, arguments);
    }
}
