import java.io.ByteArrayOutputStream;
import java.io.IOException;
import java.io.PrintStream;
import java.nio.file.Files;
import java.nio.file.Path;
import java.util.ArrayList;
import java.util.List;
import java.util.regex.Matcher;
import java.util.regex.Pattern;
import java.util.stream.Stream;

/** README.md: its example answers as it says; every call, refusal and test is told. */
final class ReadmeTest {
    private static final Path SOURCE = Path.of("src/main/java/RoadsThanked.java"), TESTS = Path.of("src/test/java");
    private static final Due due = new Due("ReadmeTest");

    public static void main(String[] args) throws IOException {
        String page = Files.readString(Path.of("README.md"));
        String example = Files.readString(TESTS.resolve("Example.java"));
        exampleIsTheFile(page, example);
        exampleAnswersAsTold(example);
        everyCallIsTold(page, example);
        refusalsAreTold(page);
        testsAreTold(page);
        due.end();
    }

    private static void told(String what, boolean so) {
        due.is(what, so ? 1 : 0, 1);
    }

    private static void exampleIsTheFile(String page, String example) {
        told("README.md holds src/test/java/Example.java, sign for sign", page.contains("```java\n" + example + "```\n"));
        told("no other piece of Java is there", page.split("```java", -1).length == 2);
    }

    private static void exampleAnswersAsTold(String example) {
        List<String> want = new ArrayList<>();
        Matcher shown = Pattern.compile("(?m)^ +show\\(.*\\); +// (-?\\d+)(:.*)$").matcher(example);
        while (shown.find()) {
            want.add(shown.group(1));
        }
        told("each line that shows an answer tells it", want.size() == example.split("\n +show\\(", -1).length - 1);
        List<String> got = printed();
        due.is("how many answers the example prints", got.size(), want.size());
        for (int i = 0; i < Math.min(got.size(), want.size()); i++) {
            due.is("answer " + i + " of the example", Long.parseLong(got.get(i)), Long.parseLong(want.get(i)));
        }
    }

    private static List<String> printed() {
        PrintStream out = System.out;
        ByteArrayOutputStream kept = new ByteArrayOutputStream();
        System.setOut(new PrintStream(kept, true));
        try {
            Example.main(new String[0]);
        } finally {
            System.setOut(out);
        }
        return kept.toString().lines().toList();
    }

    private static void everyCallIsTold(String page, String example) throws IOException {
        Matcher calls = Pattern.compile("(?m)^    public (int|long) (\\w+)\\((.*)\\) \\{$").matcher(Files.readString(SOURCE));
        int many = 0;
        while (calls.find()) {
            String call = calls.group(2) + "(" + calls.group(3).replaceAll("(int|long) ", "") + ")";
            told("a row for `" + call + "`", Pattern.compile("(?m)^\\| " + Pattern.quote("`" + call + "`") + " \\|").matcher(page).find());
            many++;
        }
        due.is("calls of the face", many, 40);
        told("the constructor", page.contains("`new RoadsThanked()`") && example.contains("new RoadsThanked()"));
    }

    private static void refusalsAreTold(String page) {
        String[] names = {"BAD", "NOT", "FULL", "STATE", "VOID"};
        int[] numbers = {RoadsThanked.BAD, RoadsThanked.NOT, RoadsThanked.FULL, RoadsThanked.STATE, RoadsThanked.VOID};
        for (int i = 0; i < names.length; i++) {
            told("a row for " + names[i], page.contains("\n| " + numbers[i] + " | `" + names[i] + "` |"));
        }
        for (int number = -11; number >= -14; number--) {
            told("a row for " + number, page.contains("\n| " + number + " | |"));
        }
    }

    private static void testsAreTold(String page) throws IOException {
        told("how tests are run", page.contains("```sh\n.ci/run\n```"));
        try (Stream<Path> files = Files.list(TESTS)) {
            for (Path file : files.toList()) {
                String name = file.getFileName().toString().replace(".java", "");
                told("`" + name + "`", page.contains("`" + name + "`") || page.contains("/" + name + ".java`"));
            }
        }
    }
}
