import java.io.ByteArrayOutputStream;
import java.io.IOException;
import java.nio.file.Files;
import java.nio.file.Path;
import java.util.ArrayList;
import java.util.Comparator;
import java.util.List;
import java.util.Map;
import java.util.concurrent.ConcurrentSkipListSet;
import java.util.concurrent.ExecutorService;
import java.util.concurrent.Executors;
import java.util.concurrent.TimeUnit;
import java.util.regex.Matcher;
import java.util.regex.Pattern;
import java.util.stream.Stream;
import javax.tools.ToolProvider;

/**
 * Breaks SignalBlind.java in one place at a time and says by which breaks no test of those named fails. No part of
 * .ci/run, as it takes some minutes. Run in the project's directory: java src/test/tools/Mutants.java Edges1To7Test ..
 */
public final class Mutants {
    private static final Path SOURCE = Path.of("src/main/java/SignalBlind.java");
    private static final String TESTS = "src/test/java", SUPPORT = "src/test/support", DOCUMENT = "../shared/DOC.md";
    private static final Map<String, List<String>> OTHERS = Map.ofEntries(
        Map.entry("<", List.of("<=", ">=")), Map.entry("<=", List.of("<", ">")), Map.entry(">", List.of(">=", "<=")),
        Map.entry(">=", List.of(">", "<")), Map.entry("==", List.of("!=")), Map.entry("!=", List.of("==")),
        Map.entry("&&", List.of("||")), Map.entry("||", List.of("&&")), Map.entry("++", List.of("--")),
        Map.entry("+", List.of("-")), Map.entry("-", List.of("+")), Map.entry("*", List.of("+")),
        Map.entry("/", List.of("*")), Map.entry("%", List.of("/")), Map.entry("&", List.of("|")),
        Map.entry("|", List.of("&")), Map.entry("^", List.of("|")), Map.entry("<<", List.of(">>")),
        Map.entry(">>", List.of("<<")), Map.entry("!", List.of("")), Map.entry("+=", List.of("-=")),
        Map.entry("|=", List.of("&=")), Map.entry("true", List.of("false")), Map.entry("false", List.of("true")),
        Map.entry("NONE", List.of("BAD")), Map.entry("BAD", List.of("NONE")), Map.entry("STATE", List.of("NONE")),
        Map.entry("FULL", List.of("NONE")), Map.entry("NO_ONE", List.of("NONE")), Map.entry("NOTHING", List.of("NONE")),
        Map.entry("CAST", List.of("NONE")), Map.entry("PLACE", List.of("NONE")), Map.entry("SIZE", List.of("NONE")));
    private static final Pattern UNSEEN = Pattern.compile("(?s)/\\*.*?\\*/|//[^\n]*|\"[^\"\n]*\"|'[^'\n]'");
    private static final Pattern PLACES = Pattern.compile("<<|>>|<=|>=|==|!=|&&|\\|\\||\\+\\+|[-+*/%&|^]=?|[<>!]"
        + "|(?<![\\w.])\\d+(?!\\w)|\\b(NONE|BAD|STATE|FULL|NO_ONE|NOTHING|CAST|PLACE|SIZE|true|false)\\b");
    private static final Pattern STATEMENT = Pattern.compile(
        "(?m)^ +(?!private|public|static|final|return|super|(?:int|boolean|long|[A-Z]\\w*) \\w+ =)(\\S.*;)$");
    private static final Pattern CONDITION = Pattern.compile("(?m)^ +(?:\\} else )?if \\((.*)\\) \\{$");

    private record Mutant(int line, String from, String to, String source) {
    }

    private final String source = Files.readString(SOURCE);
    private final List<Mutant> mutants = new ArrayList<>();
    private final ConcurrentSkipListSet<String> alive = new ConcurrentSkipListSet<>();

    private Mutants() throws IOException {
    }

    public static void main(String[] tests) throws Exception {
        Mutants all = new Mutants();
        all.find();
        System.out.println(all.mutants.size() + " breaks");
        Path classes = Files.createTempDirectory("tests");
        List<String> line = new ArrayList<>(List.of("-nowarn", "-d", classes.toString(), SOURCE.toString()));
        try (Stream<Path> files = Stream.concat(Files.list(Path.of(TESTS)), Files.list(Path.of(SUPPORT)))) {
            files.forEach(file -> line.add(file.toString()));
        }
        compile(line);
        try (Stream<Path> files = Files.list(classes)) {
            files.filter(file -> file.getFileName().toString().startsWith("SignalBlind")).forEach(file -> file.toFile().delete());
        }
        ExecutorService pool = Executors.newFixedThreadPool(Runtime.getRuntime().availableProcessors());
        for (Mutant one : all.mutants) {
            pool.submit(() -> {
                all.look(one, classes, tests);
                return null;
            });
        }
        pool.shutdown();
        pool.awaitTermination(2, TimeUnit.HOURS);
        all.alive.forEach(System.out::println);
        System.out.println(all.alive.size() + " by which no test fails");
    }

    private void find() {
        StringBuilder code = new StringBuilder(source);
        Matcher unseen = UNSEEN.matcher(source);
        while (unseen.find()) {
            for (int k = unseen.start(); k < unseen.end(); k++) {
                code.setCharAt(k, code.charAt(k) == '\n' ? '\n' : '@');
            }
        }
        Matcher m = PLACES.matcher(code);
        while (m.find()) {
            String found = m.group();
            if (Character.isDigit(found.charAt(0))) {
                long n = Long.parseLong(found);
                put(m.start(), m.end(), "" + (n + 1));
                put(m.start(), m.end(), n > 0 ? "" + (n - 1) : "(-1)");
            }
            OTHERS.getOrDefault(found, List.of()).forEach(to -> put(m.start(), m.end(), to));
        }
        Matcher statement = STATEMENT.matcher(code);
        while (statement.find()) {
            put(statement.start(1), statement.end(1), statement.group(1).equals("break;") ? "" : ";");
        }
        Matcher condition = CONDITION.matcher(code);
        while (condition.find()) {
            String was = source.substring(condition.start(1), condition.end(1));
            put(condition.start(1), condition.end(1), "false");
            put(condition.start(1), condition.end(1), "(" + was + ") || true");
        }
    }

    private void put(int from, int to, String other) {
        int line = (int) source.substring(0, from).chars().filter(c -> c == '\n').count() + 1;
        mutants.add(new Mutant(line, source.substring(from, to), other, source.substring(0, from) + other + source.substring(to)));
    }

    private static boolean compile(List<String> line) {
        return ToolProvider.getSystemJavaCompiler()
            .run(null, new ByteArrayOutputStream(), new ByteArrayOutputStream(), line.toArray(new String[0])) == 0;
    }

    private void look(Mutant one, Path classes, String[] tests) throws Exception {
        Path dir = Files.createTempDirectory("mutant");
        Path file = dir.resolve("SignalBlind.java");
        Files.writeString(file, one.source());
        boolean fails = !compile(List.of("-nowarn", "-d", dir.toString(), file.toString()));
        for (String test : tests) {
            fails = fails || fails(dir + ":" + classes, test);
        }
        if (!fails) {
            alive.add(String.format("%5d: %s -> %s", one.line(), one.from(), one.to()));
        }
        try (Stream<Path> files = Files.walk(dir)) {
            files.sorted(Comparator.reverseOrder()).forEach(old -> old.toFile().delete());
        }
    }

    private static boolean fails(String path, String test) throws Exception {
        Process run = new ProcessBuilder("java", "-XX:TieredStopAtLevel=1", "-XX:+UseSerialGC", "-Ddocument=" + DOCUMENT,
            "-Dsource=" + SOURCE, "-cp", path, test).redirectErrorStream(true)
            .redirectOutput(ProcessBuilder.Redirect.DISCARD).start();
        if (!run.waitFor(60, TimeUnit.SECONDS)) {
            run.destroyForcibly();
            return true;
        }
        return run.exitValue() != 0;
    }
}
