import java.io.IOException;
import java.lang.reflect.Method;
import java.lang.reflect.Modifier;
import java.net.URL;
import java.net.URLClassLoader;
import java.nio.file.Files;
import java.nio.file.Path;
import java.util.Comparator;
import java.util.List;
import java.util.Set;
import java.util.TreeSet;
import java.util.function.ToIntFunction;
import java.util.regex.Matcher;
import java.util.regex.Pattern;
import java.util.stream.Stream;
import javax.tools.JavaCompiler;
import javax.tools.ToolProvider;

/** The calls that README.md shows are compiled and run as they stand there, and answer as it says. */
public final class ReadmeTest {
    private static final String MAKE = "WantsBench bench = new WantsBench();";
    private static final Pattern CALL = Pattern.compile("(int \\w+ = )?(bench\\.(\\w+)\\(.*\\));\\s+// (-?\\d+|NONE|FULL|THERE|NOT)(:.*)?");
    private static final int PROMISED = 512;

    private static int wrong = 0;
    private static int calls = 0;
    private static final Set<String> shown = new TreeSet<>();

    public static void main(String[] args) throws Exception {
        String body = body(Readme.fences("java"));
        wrong += run(body);
        everyCallIsShown();
        everyTestIsNamed();
        check("a bench is for " + PROMISED + " calls, README.md makes " + calls, calls <= PROMISED);
        System.out.println(calls + " calls of README.md, " + wrong + " wrong");
        if (wrong != 0) {
            System.exit(1);
        }
    }

    private static void check(String rule, boolean is) {
        if (!is) {
            wrong++;
            System.out.println(rule);
        }
    }

    /** The fences are one run; a line that makes no bench must be a call with its answer, so that none is passed over. */
    private static String body(List<String> fences) {
        StringBuilder body = new StringBuilder();
        boolean isMade = false;
        for (String line : String.join("", fences).split("\\n")) {
            Matcher call = CALL.matcher(line);
            if (line.equals(MAKE) && !isMade) {
                isMade = true;
                body.append(line).append('\n');
            } else if (call.matches()) {
                calls++;
                shown.add(call.group(3));
                body.append(checked(call));
            } else {
                check("README.md shows no call with its answer: " + line, false);
            }
        }
        return body.toString();
    }

    private static String checked(Matcher call) {
        String keep = call.group(1) == null ? "" : call.group(1);
        String answer = call.group(4).matches("[A-Z]+") ? "WantsBench." + call.group(4) : call.group(4);
        return keep + "due(\"" + call.group(2).replace("\"", "\\\"") + "\", " + call.group(2) + ", " + answer + ");\n";
    }

    private static int run(String body) throws Exception {
        String program = "public final class ReadmeUse implements java.util.function.ToIntFunction<String> {\n"
            + "private int wrong;\n"
            + "private int due(String call, int got, int want) {\n"
            + "if (got != want) { wrong++; System.out.println(call + \" answered \" + got + \", README.md says \" + want); }\n"
            + "return got;\n}\n"
            + "public int applyAsInt(String none) {\n" + body + "return wrong;\n}\n}\n";
        Path room = Files.createTempDirectory("readme");
        try {
            return compiledAndRun(room, program);
        } finally {
            remove(room);
        }
    }

    private static int compiledAndRun(Path room, String program) throws Exception {
        Path file = Files.writeString(room.resolve("ReadmeUse.java"), program);
        JavaCompiler compiler = ToolProvider.getSystemJavaCompiler();
        String path = System.getProperty("java.class.path");
        if (compiler.run(null, null, null, "-cp", path, "-d", room.toString(), file.toString()) != 0) {
            System.out.println("the calls of README.md do not compile");
            return 1;
        }
        try (URLClassLoader loader = new URLClassLoader(new URL[] {room.toUri().toURL()}, ReadmeTest.class.getClassLoader())) {
            @SuppressWarnings("unchecked")
            ToIntFunction<String> use = (ToIntFunction<String>) loader.loadClass("ReadmeUse").getConstructor().newInstance();
            return use.applyAsInt("");
        }
    }

    private static void remove(Path room) throws IOException {
        try (Stream<Path> files = Files.walk(room)) {
            for (Path file : files.sorted(Comparator.reverseOrder()).toList()) {
                Files.delete(file);
            }
        }
    }

    private static void everyCallIsShown() {
        for (Method m : WantsBench.class.getDeclaredMethods()) {
            if (Modifier.isPublic(m.getModifiers())) {
                check("README.md does not show " + m.getName(), shown.contains(m.getName()));
            }
        }
    }

    /** README.md tells of the tests that are there, and of no others. */
    private static void everyTestIsNamed() throws IOException {
        String text = Readme.text();
        try (Stream<Path> files = Files.walk(Path.of("src"))) {
            for (Path file : files.filter(Files::isRegularFile).toList()) {
                check("README.md does not name " + file, text.contains("`" + file + "`"));
            }
        }
        Matcher named = Pattern.compile("`(src/\\S+\\.java)`").matcher(text);
        while (named.find()) {
            check("README.md names " + named.group(1) + ", which is not there", Files.isRegularFile(Path.of(named.group(1))));
        }
    }
}
