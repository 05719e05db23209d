import java.io.IOException;
import java.nio.file.Files;
import java.nio.file.Path;
import java.util.List;
import java.util.Set;
import java.util.TreeSet;
import java.util.regex.Matcher;
import java.util.regex.Pattern;
import java.util.stream.Collectors;
import java.util.stream.Stream;

/** README.md tells what is there: its example answers what it says, and its tests are those of the project. */
public final class ReadmeTest {
    private static final Path TESTS = Path.of("src/test/java");

    public static void main(String[] args) throws IOException {
        String readme = Files.readString(Path.of("README.md"));
        example();
        exampleIsThatOfReadme(readme);
        orders(readme);
        tests(readme);
        Checks.finish("ReadmeTest");
    }

    private static void example() {
        BentScope scope = new BentScope();
        scope.setBend(0, 0, 30);              // side 0: the azimuth bends by 30 minutes of arc
        int star = scope.addStar(1000, 2000); // azimuth and altitude, in minutes of arc
        int seconds = scope.aim(star);        // 17: the time of the slew
        double size = scope.miss(2);          // 30.0: the star is missed
        int lessons = scope.learn();          // 1: the first lesson of this region
        double next = scope.missOf(star);     // 15.0: what the next aim would miss by
        int left = scope.undo();              // 3: takes the lesson back; at most 4 calls can be taken back
        Checks.due("the first star", star, 0);
        Checks.due("the time of the slew", seconds, 17);
        Checks.dueDouble("the size of the miss", size, 30.0);
        Checks.due("lessons", lessons, 1);
        Checks.dueDouble("the size of the next one", next, 15.0);
        Checks.due("saved states", left, 3);
        Checks.dueDouble("it is missed as before", scope.missOf(star), 30.0);
        Checks.due("no lesson is left", scope.value(8), 0);
    }

    /** Each line of it stands in example() above, one after the other. */
    private static void exampleIsThatOfReadme(String readme) throws IOException {
        List<String> lines = between(readme, "```java\n", "```").lines().collect(Collectors.toList());
        List<String> own = Files.readString(TESTS.resolve("ReadmeTest.java")).lines().map(String::trim)
            .collect(Collectors.toList());
        int at = own.indexOf(lines.get(0));
        Checks.dueTrue("the example begins as here", at >= 0);
        for (int i = 0; at >= 0 && i < lines.size(); i++) {
            Checks.dueTrue("the same line as " + lines.get(i), own.get(at + i).equals(lines.get(i)));
        }
    }

    private static void orders(String readme) {
        String text = between(readme, "after `append` of each byte of `", "`");
        BentScope scope = new BentScope();
        Checks.due("orders", Checks.carryOut(scope, text), 3);
        Checks.dueTrue("as it says", readme.contains("answers 3."));
        Checks.dueValues(scope, "a star, an aim and a lesson", 1, 1000, 2000, 0, 17, 1, 1, 0, 1, 1, 0, 0);
        Checks.due("-10 minus the position", Checks.carryOut(new BentScope(), "s1000,2000;a0;l"), -25);
    }

    /** It names each test that there is, and none that there is not. */
    private static void tests(String readme) throws IOException {
        Set<String> there = new TreeSet<>();
        try (Stream<Path> files = Files.list(TESTS)) {
            files.map(file -> file.getFileName().toString()).filter(name -> name.endsWith("Test.java"))
                .forEach(name -> there.add(name.replace(".java", "")));
        }
        Set<String> named = new TreeSet<>();
        Matcher names = Pattern.compile("`(\\w+Test)`").matcher(readme);
        while (names.find()) {
            named.add(names.group(1));
        }
        Checks.dueTrue("README.md names " + named + ", there are " + there, named.equals(there));
    }

    private static String between(String text, String start, String end) {
        int from = text.indexOf(start) + start.length();
        return text.substring(from, text.indexOf(end, from));
    }
}
