import java.io.IOException;
import java.nio.file.FileVisitOption;
import java.nio.file.Files;
import java.nio.file.Path;
import java.nio.file.StandardCopyOption;
import java.util.Comparator;
import java.util.List;
import java.util.Set;
import java.util.stream.Stream;

/** The commands that README.md gives, in a clean copy of the checkout with ../shared beside it. */
public final class CheckoutTest {
    /** Set in the copy, where this test would otherwise copy itself without end. */
    private static final String IN_COPY = "WANTS_BENCH_COPY";
    /** What git keeps for itself or passes over (.gitignore). */
    private static final Set<String> NOT_CHECKED_OUT = Set.of(".git", "build");

    private static int wrong = 0;

    public static void main(String[] args) throws Exception {
        if (System.getenv(IN_COPY) != null) {
            System.out.println("this is a copy already");
            return;
        }
        Path room = Files.createTempDirectory("checkout");
        try {
            Path copy = copied(room);
            commandsOfReadme(copy);
            brokenOnesAreRefused(copy, room.resolve("shared"));
        } finally {
            remove(room);
        }
        System.out.println(wrong == 0 ? "the commands work in a clean copy" : wrong + " wrong");
        if (wrong != 0) {
            System.exit(1);
        }
    }

    private static void check(String rule, boolean is, String output) {
        if (!is) {
            wrong++;
            System.out.println(rule);
            System.out.println(output.indent(4));
        }
    }

    private static Path copied(Path room) throws IOException {
        Path copy = room.resolve("main");
        copyTree(Path.of("."), copy);
        copyTree(Path.of("../shared"), room.resolve("shared"));
        return copy;
    }

    /** Links are followed, as ../shared may be one. */
    private static void copyTree(Path from, Path to) throws IOException {
        try (Stream<Path> files = Files.walk(from, FileVisitOption.FOLLOW_LINKS)) {
            for (Path file : files.filter(f -> isCheckedOut(from.relativize(f))).toList()) {
                Path end = to.resolve(from.relativize(file).toString());
                if (Files.isDirectory(file)) {
                    Files.createDirectories(end);
                } else {
                    Files.copy(file, end, StandardCopyOption.COPY_ATTRIBUTES);
                    end.toFile().setWritable(true);
                }
            }
        }
    }

    private static boolean isCheckedOut(Path file) {
        for (Path name : file) {
            if (NOT_CHECKED_OUT.contains(name.toString())) {
                return false;
            }
        }
        return !file.toString().endsWith(".class");
    }

    private static void commandsOfReadme(Path copy) throws Exception {
        List<String> fences = Readme.fences("sh");
        check("README.md gives .ci/run as the way to run all tests", fences.contains(".ci/run\n"), fences.toString());
        for (String commands : fences) {
            Ended ended = run(copy, commands);
            check("README.md gives commands that fail: " + commands, ended.code == 0, ended.output);
            if (commands.equals(".ci/run\n")) {
                everyTestRan(ended.output);
            }
        }
    }

    private static void everyTestRan(String output) throws IOException {
        int tests = 0;
        for (String home : List.of("src/test/java", "../shared/tests")) {
            try (Stream<Path> files = Files.list(Path.of(home))) {
                for (Path file : files.filter(f -> f.toString().endsWith(".java")).toList()) {
                    tests++;
                    check(file + " is not run", output.contains("== " + file + "\n"), output);
                }
            }
        }
        check("not all " + tests + " tests pass", output.endsWith(tests + " passed, 0 failed\n"), output);
    }

    /** What stands under ../shared/tests may change: there a test is added, not one of the given ones changed. */
    private static void brokenOnesAreRefused(Path copy, Path shared) throws Exception {
        changed(copy, "src/main/java/WantsBench.java", "THERE = -3", "THERE = -5", "PromisesTest");
        changed(copy, "README.md", "// -102:", "// -103:", "ReadmeTest");
        for (Path tests : List.of(copy.resolve("src/test/java"), shared.resolve("tests"))) {
            added(copy, tests, "System.exit(1);");
            added(copy, tests, "throw new IllegalStateException();");
            added(copy, tests, "new WantsBench().noSuchCall();");
        }
        check(".ci/run takes a name that no test has", run(copy, ".ci/run NoSuchTest").code != 0, "");
    }

    private static void changed(Path copy, String name, String from, String to, String test) throws Exception {
        Path file = copy.resolve(name);
        String text = Files.readString(file);
        int at = text.indexOf(from);
        check(name + " does not have '" + from + "' once", at >= 0 && at == text.lastIndexOf(from), "");
        Files.writeString(file, text.replace(from, to));
        refused(copy, test, name + " with '" + to + "'");
        Files.writeString(file, text);
    }

    private static void added(Path copy, Path tests, String body) throws Exception {
        Path file = tests.resolve("FailingTest.java");
        Files.writeString(file, "public final class FailingTest { public static void main(String[] args) { " + body + " } }\n");
        refused(copy, "FailingTest", file + " with '" + body + "'");
        Files.delete(file);
    }

    private static void refused(Path copy, String test, String what) throws Exception {
        Ended ended = run(copy, ".ci/run " + test);
        check(".ci/run passes " + what, ended.code == 1 && ended.output.endsWith("0 passed, 1 failed\n"), ended.output);
    }

    private record Ended(int code, String output) {
    }

    private static Ended run(Path home, String commands) throws Exception {
        ProcessBuilder builder = new ProcessBuilder("bash", "-e", "-c", commands).directory(home.toFile()).redirectErrorStream(true);
        builder.environment().put(IN_COPY, "1");
        Process process = builder.start();
        process.getOutputStream().close();
        String output = new String(process.getInputStream().readAllBytes());
        return new Ended(process.waitFor(), output);
    }

    private static void remove(Path room) throws IOException {
        try (Stream<Path> files = Files.walk(room)) {
            for (Path file : files.sorted(Comparator.reverseOrder()).toList()) {
                Files.delete(file);
            }
        }
    }
}
