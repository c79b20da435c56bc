import java.lang.reflect.Method;
import java.lang.reflect.Modifier;
import java.net.URL;
import java.net.URLClassLoader;
import java.nio.file.Files;
import java.nio.file.Path;
import java.util.ArrayList;
import java.util.List;
import java.util.regex.Matcher;
import java.util.regex.Pattern;
import java.util.stream.Collectors;
import java.util.stream.Stream;
import javax.tools.JavaCompiler;
import javax.tools.ToolProvider;

/** What README.md shows answers as it says, and its way to run the tests is that of .ci/run. */
public final class ReadmeTest {
    private static final Path TESTS = Path.of("src/test/java");
    private static final Path SHARED = Path.of("../shared/tests");
    private static final Pattern BLOCK = Pattern.compile("(?ms)^```(\\w+)\\n(.*?)^```$");
    private static final Pattern SHOWN = Pattern.compile("(.*?);\\s*// (-?\\d+|true|false)(:.*)?");
    private static final Pattern KEPT = Pattern.compile("(?:int|long|boolean) (\\w+) = .*");

    private static String readme;
    private static String runner;

    public static void main(String[] args) throws Exception {
        readme = Files.readString(Path.of("README.md"));
        runner = Files.readString(Path.of(".ci/run"));
        use();
        wholeFace();
        roomIsTold();
        wayToRun();
        everyTestIsRun();
        Due.finish("ReadmeTest");
    }

    private static List<String> blocks(String language) {
        return BLOCK.matcher(readme).results().filter(b -> b.group(1).equals(language)).map(b -> b.group(2))
            .collect(Collectors.toList());
    }

    /** The blocks are one run: those that begin with static stand beside it. */
    private static void use() throws Exception {
        StringBuilder members = new StringBuilder();
        StringBuilder body = new StringBuilder();
        List<String> lines = new ArrayList<>();
        List<Long> told = new ArrayList<>();
        for (String block : blocks("java")) {
            if (block.startsWith("static ")) {
                members.append(block);
            } else {
                block.lines().forEach(line -> body.append(asked(line, lines, told)).append('\n'));
            }
        }
        long[] answers = answers(members + "public static long[] run() {\nlong[] answers = new long["
            + lines.size() + "];\n" + body + "return answers;\n}\n");
        Due.due("many answers are shown", lines.size() > 60, true);
        Due.due("calls of one object", 2 * lines.size() < 512, true);
        for (int i = 0; i < answers.length; i++) {
            Due.due("README.md: " + lines.get(i), answers[i], told.get(i));
        }
    }

    /** A line of README.md as a line that keeps the answer, if it tells one. */
    private static String asked(String line, List<String> lines, List<Long> told) {
        Matcher shown = SHOWN.matcher(line);
        if (!shown.matches()) {
            Due.due("a remark that tells no answer: " + line, line.contains("//"), false);
            return line;
        }
        String call = shown.group(1);
        String answer = shown.group(2);
        Matcher kept = KEPT.matcher(call);
        boolean isKept = kept.matches();
        String keep = "answers[" + lines.size() + "] = number(" + (isKept ? kept.group(1) : call) + ");";
        lines.add(line);
        told.add(answer.equals("true") ? 1L : answer.equals("false") ? 0L : Long.parseLong(answer));
        return isKept ? call + "; " + keep : keep;
    }

    private static long[] answers(String code) throws Exception {
        Path place = Files.createTempDirectory("readme");
        Path source = place.resolve("ReadmeUse.java");
        Files.writeString(source, "public final class ReadmeUse {\n"
            + "static long number(boolean b) { return b ? 1 : 0; }\nstatic long number(long n) { return n; }\n"
            + code + "}\n");
        JavaCompiler compiler = ToolProvider.getSystemJavaCompiler();
        int failed = compiler.run(null, null, null, "-cp", System.getProperty("java.class.path"),
            "-d", place.toString(), source.toString());
        Due.due("what README.md shows compiles", failed, 0);
        long[] answers = new long[0];
        if (failed == 0) {
            try (URLClassLoader loader = new URLClassLoader(new URL[] {place.toUri().toURL()})) {
                answers = (long[]) loader.loadClass("ReadmeUse").getMethod("run").invoke(null);
            }
        }
        Files.deleteIfExists(place.resolve("ReadmeUse.class"));
        Files.deleteIfExists(source);
        Files.deleteIfExists(place);
        return answers;
    }

    private static void wholeFace() {
        String shown = String.join("", blocks("java"));
        for (Method m : ThinkNumber.class.getDeclaredMethods()) {
            if (Modifier.isPublic(m.getModifiers())) {
                Due.due("README.md shows " + m.getName(), shown.contains("x." + m.getName() + "("), true);
            }
        }
    }

    private static void roomIsTold() throws Exception {
        Room room = new Room();
        room.count(new ThinkNumber());
        String told = String.format(java.util.Locale.ROOT, "(%,d objects and arrays, %,d fields and elements)",
            room.objects, room.elements);
        Due.due("README.md tells the room: " + told, readme.contains(told), true);
    }

    /** The lines that README.md tells for one test are those of .ci/run, its names put for theirs. */
    private static void wayToRun() {
        List<String> commands = String.join("", blocks("sh")).lines().collect(Collectors.toList());
        Due.due("README.md tells three commands", commands.size(), 3);
        Due.due("the first runs all", commands.get(0).equals(".ci/run"), true);
        Due.due(".ci/run can be run", Files.isExecutable(Path.of(".ci/run")), true);
        for (String command : commands.subList(1, commands.size())) {
            String inRunner = command.replace("src/test/java/PromisesTest.java", "\"$1\"")
                .replace("-sourcepath src/test/java", "-sourcepath \"$(dirname \"$1\")\"")
                .replace("src/main/java/ThinkNumber.java", "\"$main\"")
                .replace(" out", " \"$out\"").replace("PromisesTest", "\"$name\"");
            Due.due(".ci/run has " + inRunner, runner.contains("! " + inRunner + ";"), true);
        }
        Due.due("the class", runner.contains("\nmain=src/main/java/ThinkNumber.java\n"), true);
        Due.due("the shared tests", runner.contains("\nshared=../shared/tests\n"), true);
        Due.due("each test of the project", runner.contains("\nfor test in src/test/java/*Test.java; do\n"), true);
        Due.due("each shared test", runner.contains("\nfor test in \"$shared\"/*.java; do\n"), true);
    }

    private static void everyTestIsRun() throws Exception {
        try (Stream<Path> files = Files.list(TESTS)) {
            for (Path file : files.collect(Collectors.toList())) {
                String name = file.getFileName().toString();
                boolean runs = Files.readString(file).contains("static void main(String[] args)");
                Due.due(name + ": what has a main bears the name of a test", name.endsWith("Test.java"), runs);
                if (runs) {
                    String bare = "`" + name.replace(".java", "") + "`";
                    Due.due("README.md tells of " + bare, readme.contains(bare), true);
                }
            }
        }
        try (Stream<Path> files = Files.list(SHARED)) {
            Due.due("shared tests", files.anyMatch(f -> f.toString().endsWith(".java")), true);
        }
    }
}
