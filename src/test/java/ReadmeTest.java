import java.io.IOException;
import java.lang.reflect.Method;
import java.lang.reflect.Modifier;
import java.net.URL;
import java.net.URLClassLoader;
import java.nio.file.Files;
import java.nio.file.Path;
import java.util.ArrayList;
import java.util.List;
import java.util.Set;
import java.util.TreeSet;
import java.util.regex.Matcher;
import java.util.regex.Pattern;
import java.util.stream.Collectors;
import java.util.stream.Stream;
import javax.tools.JavaCompiler;
import javax.tools.ToolProvider;

/** README.md: its example answers as it says, its way to run tests is that of .ci/run, and nothing is left out. */
public final class ReadmeTest {
    private static final Due due = new Due("ReadmeTest");
    private static final Pattern ANSWERED = Pattern.compile("(x\\.\\w+\\(.*\\));\\s*// (-?\\d+|[A-Z]+): .*");

    private final String page;
    private final Path folder;

    private ReadmeTest(String page, Path folder) {
        this.page = page;
        this.folder = folder;
    }

    public static void main(String[] args) throws IOException, ReflectiveOperationException {
        Path folder = Files.createTempDirectory("readme");
        try {
            ReadmeTest t = new ReadmeTest(Files.readString(Path.of("README.md")), folder);
            t.theExample();
            t.theWayToRun();
            t.theCalls();
            t.theTests();
        } finally {
            remove(folder);
        }
        due.end();
    }

    private static void remove(Path folder) throws IOException {
        try (Stream<Path> files = Files.list(folder)) {
            for (Path file : files.collect(Collectors.toList())) {
                Files.delete(file);
            }
        }
        Files.delete(folder);
    }

    /** The rows of all blocks of that kind. */
    private List<String> rowsOf(String kind) {
        List<String> rows = new ArrayList<>();
        Matcher block = Pattern.compile("(?s)```" + kind + "\n(.*?)```").matcher(page);
        while (block.find()) {
            rows.addAll(List.of(block.group(1).split("\n")));
        }
        return rows;
    }

    private void theExample() throws IOException, ReflectiveOperationException {
        due.says("the calls that README.md shows as an example answer as README.md says they do");
        StringBuilder body = new StringBuilder();
        List<String> calls = new ArrayList<>();
        List<Long> want = new ArrayList<>();
        for (String row : rowsOf("java")) {
            Matcher answered = ANSWERED.matcher(row);
            if (answered.matches()) {
                calls.add(answered.group(1));
                want.add(numberOf(answered.group(2)));
                body.append("got.add((long) ").append(answered.group(1)).append(");\n");
            } else {
                due.isTrue("what a row with words behind it answers: " + row, !row.contains("//"));
                body.append(row).append("\n");
            }
        }
        due.isTrue("there is an example", calls.size() > 5);
        List<Long> got = answersOf(body.toString());
        due.is("answers", got.size(), want.size());
        for (int i = 0; i < Math.min(got.size(), want.size()); i++) {
            due.is(calls.get(i), got.get(i), want.get(i));
        }
    }

    private static long numberOf(String answer) throws ReflectiveOperationException {
        boolean named = Character.isLetter(answer.charAt(0));
        return named ? HeatLines.class.getField(answer).getInt(null) : Long.parseLong(answer);
    }

    /** Compiles the example as it stands on the page and runs it on its own. */
    @SuppressWarnings("unchecked")
    private List<Long> answersOf(String body) throws IOException, ReflectiveOperationException {
        Path file = folder.resolve("ReadmeExample.java");
        Files.writeString(file, "public final class ReadmeExample {\n"
            + "public static java.util.List<Long> answers() {\n"
            + "java.util.List<Long> got = new java.util.ArrayList<>();\n" + body + "return got;\n}\n}\n");
        JavaCompiler compiler = ToolProvider.getSystemJavaCompiler();
        int result = compiler.run(null, null, null, "-cp", System.getProperty("java.class.path"),
            "-d", folder.toString(), file.toString());
        due.is("the example compiles", result, 0);
        if (result != 0) {
            return List.of();
        }
        try (URLClassLoader loader = new URLClassLoader(new URL[] {folder.toUri().toURL()})) {
            return (List<Long>) loader.loadClass("ReadmeExample").getMethod("answers").invoke(null);
        }
    }

    private void theWayToRun() throws IOException {
        due.says("The way to run the tests that README.md names is the way in which .ci/run runs them");
        String script = Files.readString(Path.of(".ci/run"));
        due.isTrue(".ci/run can be run", Files.isExecutable(Path.of(".ci/run")));
        Matcher main = Pattern.compile("(?m)^main=(.*)$").matcher(script);
        due.isTrue("the class is named", main.find());
        // The script has a folder for each kind of test and hands names on; the page needs neither.
        String plain = script.replace("\"$main\"", main.group(1)).replace("$out/own", "$out");
        List<String> rows = rowsOf("sh");
        due.isTrue(".ci/run is named", rows.remove(".ci/run"));
        for (String row : rows) {
            String asInScript = row.replaceAll("^java -cp \"\\$out\" \\w+Test$", "java -cp \"\\$1\" \"\\$2\"");
            due.isTrue(".ci/run has: " + row, plain.contains(asInScript));
        }
        due.is("ways of compiling", rows.stream().filter(row -> row.startsWith("javac ")).count(), 1);
        due.is("ways of running", rows.stream().filter(row -> row.startsWith("java ")).count(), 1);
    }

    private void theCalls() throws ReflectiveOperationException {
        due.says("README.md says how to use the class");
        for (Method m : HeatLines.class.getDeclaredMethods()) {
            if (Modifier.isPublic(m.getModifiers())) {
                due.isTrue(m.getName() + " is named", page.contains("`" + m.getName() + "`"));
            }
        }
        for (String name : new String[] {"UNKNOWN", "BAD", "LATE", "FULL", "NONE"}) {
            due.isTrue(name + " is named", page.contains("`" + name + "` (" + numberOf(name) + ")"));
        }
    }

    private void theTests() throws IOException {
        due.says("README.md says .. how to run its tests");
        Set<String> named = new TreeSet<>();
        Matcher test = Pattern.compile("`(\\w+Test)`").matcher(page);
        while (test.find()) {
            named.add(test.group(1));
        }
        Set<String> there = new TreeSet<>();
        try (Stream<Path> files = Files.list(Path.of("src/test/java"))) {
            files.map(file -> file.getFileName().toString()).filter(name -> name.endsWith("Test.java"))
                .forEach(name -> there.add(name.replace(".java", "")));
        }
        due.isTrue("named are " + named + ", there are " + there, named.equals(there));
    }
}
