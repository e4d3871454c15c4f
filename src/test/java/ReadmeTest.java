import java.io.IOException;
import java.nio.file.Files;
import java.nio.file.Path;
import java.util.List;
import java.util.TreeSet;
import java.util.regex.Matcher;
import java.util.regex.Pattern;
import java.util.stream.Collectors;
import java.util.stream.Stream;

/** README.md: its example answers what it says, and it names each call of the document's face and each test. */
public final class ReadmeTest {
    private static final Check check = new Check();
    private static final Pattern EXAMPLE = Pattern.compile("(?s)```java\n(.*?)```");
    private static final Pattern CALL = Pattern.compile("blind\\.(\\w+)\\(([-\\d, ]*)\\); +// (-?\\d+)(: .*)?");
    private static final Pattern TEXT = Pattern.compile("for \\(char sign : \"([^\"]*)\"\\.toCharArray\\(\\)\\) \\{");
    private static final List<String> UNSAID = List.of("SignalBlind blind = new SignalBlind();", "blind.feed(sign);", "}");
    private static final Pattern FACE = Pattern.compile("(?m)^    public (?:int|long) (\\w+)\\((.*)\\);$");

    public static void main(String[] args) throws IOException {
        Path root = Path.of(System.getProperty("root"));
        String readme = Files.readString(root.resolve("README.md"));
        example(readme);
        calls(readme, Files.readString(Path.of(System.getProperty("document"))));
        tests(readme, root.resolve("src/test/java"));
        check.end();
    }

    private static void example(String readme) {
        Matcher block = EXAMPLE.matcher(readme);
        boolean found = block.find();
        check.due("README.md has an example", found ? 1 : 0, 1);
        SignalBlind blind = new SignalBlind();
        int answered = 0;
        for (String line : (found ? block.group(1) : "").split("\n")) {
            Matcher call = CALL.matcher(line.trim());
            Matcher text = TEXT.matcher(line.trim());
            if (call.matches()) {
                answered++;
                long got = Calls.call(blind, call.group(1) + " " + call.group(2).replace(",", " "));
                check.due("README.md: " + line.trim(), got, Long.parseLong(call.group(3)));
            } else if (text.matches()) {
                text.group(1).chars().forEach(blind::feed);
            } else {
                check.due("README.md, a line that tells no answer: " + line, UNSAID.contains(line.trim()) ? 1 : 0, 1);
            }
        }
        check.due("answers of the example were looked at", answered > 0 ? 1 : 0, 1);
    }

    private static void calls(String readme, String document) {
        Matcher face = FACE.matcher(document);
        int many = 0;
        while (face.find()) {
            many++;
            String call = "`" + face.group(1) + "(" + face.group(2).replaceAll("\\b(int|long) ", "") + ")`";
            check.due("README.md names " + call, readme.contains(call) ? 1 : 0, 1);
        }
        check.due("calls of the document's face", many, 37);
    }

    private static void tests(String readme, Path directory) throws IOException {
        TreeSet<String> names;
        try (Stream<Path> files = Files.list(directory)) {
            names = files.map(file -> file.getFileName().toString().replace(".java", ""))
                .collect(Collectors.toCollection(TreeSet::new));
        }
        check.due("tests were seen", names.isEmpty() ? 1 : 0, 0);
        for (String name : names) {
            check.due("README.md names " + name, readme.contains("`" + name + "`") ? 1 : 0, 1);
        }
    }
}
