import java.io.IOException;
import java.lang.reflect.Method;
import java.lang.reflect.Modifier;
import java.nio.file.Files;
import java.nio.file.Path;
import java.util.ArrayList;
import java.util.Arrays;
import java.util.List;
import java.util.Set;
import java.util.TreeSet;
import java.util.regex.MatchResult;
import java.util.regex.Pattern;
import java.util.stream.Collectors;
import java.util.stream.Stream;

/** README.md tells what is so: its example is played, its tables are held against the class and the tests. */
public final class ReadmeTest {
    private static final Check CHECK = new Check();

    public static void main(String[] args) throws Exception {
        String page = Files.readString(Path.of("README.md"));
        example(page);
        calls(page);
        refusals(page);
        tests(page);
        CHECK.end("ReadmeTest");
    }

    private static List<MatchResult> all(String pattern, String text) {
        return Pattern.compile(pattern, Pattern.MULTILINE).matcher(text).results().collect(Collectors.toList());
    }

    /** Each line of the example is a call with the answer behind it, but for the line that makes the object. */
    private static void example(String page) throws Exception {
        String block = page.substring(page.indexOf("```java\n") + 8);
        String[] lines = block.substring(0, block.indexOf("\n```")).split("\n");
        CHECK.same("the example's first line", lines[0], "SameBench bench = new SameBench();");
        SameBench bench = new SameBench();
        for (int k = 1; k < lines.length; k++) {
            List<MatchResult> found = all("^bench\\.(\\w+)\\(([-\\d, ]*)\\); +// (-?\\d+)(:.*)?$", lines[k]);
            CHECK.due("a call and its answer: " + lines[k], found.size(), 1);
            if (found.size() != 1) continue;
            MatchResult call = found.get(0);
            CHECK.due(lines[k], play(bench, call.group(1), call.group(2)), Long.parseLong(call.group(3)));
        }
    }

    private static long play(SameBench bench, String name, String numbers) throws Exception {
        String[] told = numbers.isEmpty() ? new String[0] : numbers.split(", ");
        Object[] values = Arrays.stream(told).map(Integer::valueOf).toArray();
        Class<?>[] types = new Class<?>[told.length];
        Arrays.fill(types, int.class);
        Number answer = (Number) SameBench.class.getMethod(name, types).invoke(bench, values);
        return answer.longValue();
    }

    /** The table has each call of the face once, with as many arguments as the call has. */
    private static void calls(String page) {
        Set<String> face = new TreeSet<>();
        for (Method method : SameBench.class.getDeclaredMethods()) {
            if (Modifier.isPublic(method.getModifiers())) face.add(method.getName() + " " + method.getParameterCount());
        }
        List<String> told = new ArrayList<>();
        for (MatchResult row : all("^\\| `(\\w+)\\(([\\w, ]*)\\)` \\|", page)) {
            int arguments = row.group(2).isEmpty() ? 0 : row.group(2).split(", ").length;
            told.add(row.group(1) + " " + arguments);
        }
        CHECK.due("each call once", told.size(), face.size());
        CHECK.same("the calls of the table", new TreeSet<>(told), face);
    }

    private static void refusals(String page) {
        List<String> told = new ArrayList<>();
        for (MatchResult row : all("^\\| (-\\d+) \\| `?(?:SameBench\\.)?(\\w+)", page)) {
            told.add(row.group(2) + " " + row.group(1));
        }
        CHECK.same("the refusals, in their order", told, List.of("BAD " + SameBench.BAD, "NOT " + SameBench.NOT,
            "FULL " + SameBench.FULL, "NULL -11", "INDEX -12", "CAST -13", "SIZE -14"));
        SameBench bench = new SameBench();
        bench.thing(0, 0, 0, 0);
        CHECK.due("NULL", bench.unrow(0, 0), -11);
        CHECK.due("SIZE", bench.row(0, 0, -1), -14);
        CHECK.due("CAST", bench.word(0, 0, 0), -13);
        CHECK.due("NOT", bench.mark(0), -2);
        bench.row(0, 0, 0);
        CHECK.due("INDEX", bench.place(0, 0, 0, 0), -12);
        for (int k = 1; k < 12; k++) bench.thing(0, 0, 0, 0);
        CHECK.due("FULL", bench.thing(0, 0, 0, 0), -3);
    }

    /** The table has each test that .ci/run runs, and no other one. */
    private static void tests(String page) throws IOException {
        Set<String> told = new TreeSet<>();
        for (MatchResult row : all("^\\| (\\w+Test) \\|", page)) told.add(row.group(1));
        Set<String> there = new TreeSet<>();
        try (Stream<Path> files = Files.list(Path.of("src/test/java"))) {
            files.map(file -> file.getFileName().toString()).filter(name -> name.endsWith("Test.java"))
                .forEach(name -> there.add(name.replace(".java", "")));
        }
        CHECK.same("the tests", told, there);
    }
}
