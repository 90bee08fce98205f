import java.io.IOException;
import java.lang.reflect.Method;
import java.lang.reflect.Modifier;
import java.nio.charset.StandardCharsets;
import java.nio.file.DirectoryStream;
import java.nio.file.Files;
import java.nio.file.Path;
import java.util.ArrayList;
import java.util.List;
import java.util.Set;
import java.util.TreeSet;
import java.util.regex.Matcher;
import java.util.regex.Pattern;

/** README.md: each call that it shows, each command for the tests, and the tests that it names. */
public final class ReadmeTest {
    private static final Due DUE = new Due();
    private static final Path README = Path.of("README.md");
    private static final String ALL_TESTS = ".ci/run";
    private static final String MAKES = "FigureTill town = new FigureTill();";
    private static final Pattern ERROR = Pattern.compile("\\| (-\\d+) \\| (\\w+) \\|");
    private static final Pattern CALL = Pattern.compile("town\\.(\\w+)\\((.*)\\); +// (-?\\d+)(:.*)?");

    public static void main(String[] args) throws Exception {
        errors();
        calls();
        commands();
        tests();
        DUE.end();
    }

    /** The lines of all blocks in a language. */
    private static List<String> shown(String language) throws IOException {
        List<String> shown = new ArrayList<>();
        boolean inside = false;
        for (String line : Files.readAllLines(README, StandardCharsets.UTF_8)) {
            if (line.startsWith("```")) {
                inside = line.equals("```" + language);
            } else if (inside) {
                shown.add(line);
            }
        }
        return shown;
    }

    /** The table of ERRORS: LOW - 1 to LOW - 6, in the document's order. */
    private static void errors() throws IOException {
        String[] names = {"BEYOND", "NONE", "STATE", "FULL", "KIND", "PARTED"};
        int k = 0;
        for (String line : Files.readAllLines(README, StandardCharsets.UTF_8)) {
            Matcher row = ERROR.matcher(line);
            if (row.lookingAt() && k < names.length) {
                k++;
                DUE.is("README.md: " + line, Long.parseLong(row.group(1)), Due.LOW - k);
                DUE.is("README.md names " + names[k - 1], row.group(2).equals(names[k - 1]) ? 1 : 0, 1);
            }
        }
        DUE.is("ERRORS that README.md tells", k, names.length);
    }

    private static void calls() throws Exception {
        Set<String> unshown = new TreeSet<>();
        for (Method m : FigureTill.class.getDeclaredMethods()) {
            if (Modifier.isPublic(m.getModifiers())) {
                unshown.add(m.getName());
            }
        }
        FigureTill town = new FigureTill();
        for (String line : shown("java")) {
            if (line.equals(MAKES)) {
                town = new FigureTill();
                continue;
            }
            Matcher call = CALL.matcher(line);
            DUE.is("README.md shows a call and its answer: " + line, call.matches() ? 1 : 0, 1);
            if (call.matches()) {
                DUE.is("README.md: " + line, answer(town, call.group(1), call.group(2)), Long.parseLong(call.group(3)));
                unshown.remove(call.group(1));
            }
        }
        DUE.is("README.md doesn't show " + unshown, unshown.size(), 0);
    }

    private static long answer(FigureTill town, String name, String numbers) throws Exception {
        String[] given = numbers.isEmpty() ? new String[0] : numbers.split(", ");
        for (Method m : FigureTill.class.getDeclaredMethods()) {
            if (m.getName().equals(name) && Modifier.isPublic(m.getModifiers()) && m.getParameterCount() == given.length) {
                Object[] a = new Object[given.length];
                for (int i = 0; i < a.length; i++) {
                    a[i] = m.getParameterTypes()[i] == long.class ? (Object) number(given[i]) : (Object) (int) number(given[i]);
                }
                return ((Number) m.invoke(town, a)).longValue();
            }
        }
        throw new IllegalArgumentException("there is no call " + name + "(" + numbers + ")");
    }

    /** A sign in '', or a number as Java writes it. */
    private static long number(String text) {
        if (text.matches("'.'")) {
            return text.charAt(1);
        }
        return Long.decode(text.endsWith("L") ? text.substring(0, text.length() - 1) : text);
    }

    /** All but the one that runs this test are run. */
    private static void commands() throws Exception {
        List<String> commands = shown("sh");
        DUE.is("README.md tells how all tests are run", commands.contains(ALL_TESTS) ? 1 : 0, 1);
        DUE.is(ALL_TESTS + " is a script that runs", Files.isExecutable(Path.of(ALL_TESTS)) ? 1 : 0, 1);
        DUE.is("README.md tells how one is run", commands.size() > 1 ? 1 : 0, 1);
        for (String command : commands) {
            if (!command.equals(ALL_TESTS)) {
                DUE.is("README.md: " + command + ": exit code", exitCode(command), 0);
            }
        }
    }

    private static int exitCode(String command) throws Exception {
        Process process = new ProcessBuilder("sh", "-c", command).redirectErrorStream(true).start();
        process.getOutputStream().close();
        String told = new String(process.getInputStream().readAllBytes());
        int code = process.waitFor();
        if (code != 0) {
            System.out.println(told);
        }
        return code;
    }

    /** Each test of the project is named, and no other. */
    private static void tests() throws IOException {
        Set<String> are = new TreeSet<>();
        try (DirectoryStream<Path> files = Files.newDirectoryStream(Path.of("src/test/java"), "*Test.java")) {
            for (Path file : files) {
                are.add(file.getFileName().toString().replace(".java", ""));
            }
        }
        Set<String> named = new TreeSet<>();
        Matcher name = Pattern.compile("`(\\w+Test)`").matcher(Files.readString(README));
        while (name.find()) {
            named.add(name.group(1));
        }
        for (String test : are) {
            DUE.is("README.md names " + test, named.contains(test) ? 1 : 0, 1);
        }
        for (String test : named) {
            DUE.is("there is a " + test, are.contains(test) ? 1 : 0, 1);
        }
    }
}
