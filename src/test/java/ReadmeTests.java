import java.io.IOException;
import java.lang.reflect.Method;
import java.lang.reflect.Modifier;
import java.nio.file.Files;
import java.nio.file.Path;
import java.util.Arrays;
import java.util.List;
import java.util.stream.Collectors;
import java.util.stream.Stream;

/** README.md says how to use the class and how to run its tests, and what it says holds. */
final class ReadmeTests {
    private static final Path README = Path.of("README.md");
    private static final Path TESTS = Path.of("src/test/java");

    private ReadmeTests() {
    }

    public static void main(String[] args) throws IOException {
        List<String> page = Files.readAllLines(README);
        exampleHolds();
        exampleIsThePages(page);
        callsAreNamed(page);
        exceptionsAreNamed(page);
        testsAreNamed(page);
        Check.end("ReadmeTests");
    }

    private static void exampleHolds() {
        // README.md:
        RootedWords heap = new RootedWords();
        int list = heap.take(4, 2);       // 2: the address of 4 words, the first 2 of them pointers
        heap.setRoot(0, list);            // now list is kept
        int item = heap.take(1, 0);       // 8: the address of a word that is no pointer
        heap.store(item, 0, 42);
        heap.store(list, 0, item);        // now item is kept too
        int lost = heap.take(3, 0);       // 11: nothing leads to it
        int kept = RootedWords.NONE;
        heap.order(3);                    // the power is to fail in place of the fourth write from now
        try {
            heap.give(item);              // throws: its note was not valid yet, so it has done nothing
        } catch (IllegalStateException e) {
            kept = heap.recover();        // 2: list and item are there again, lost is free
        }
        // Behind README.md.
        Check.same("Promise 2: list", list, 2);
        Check.same("Promise 2: item", item, 8);
        Check.same("Promise 2: lost", lost, 11);
        Check.same("Promises 13 and 14: kept", kept, 2);
        Check.same("Promises 3 to 14: what stands", Picture.of(heap),
                "2/2[8,0,0,0] 8/0[42] -11 | 2 0 0 0 0 0 0 0 | free 245 most 245 reached 2");
    }

    private static void exampleIsThePages(List<String> page) throws IOException {
        List<String> source = Files.readAllLines(TESTS.resolve("ReadmeTests.java"));
        Check.same("the page's example", between(page, "```java", "```"),
                between(source, "        // README.md:", "        // Behind README.md."));
    }

    private static String between(List<String> lines, String first, String last) {
        int start = lines.indexOf(first) + 1;
        int length = lines.subList(start, lines.size()).indexOf(last);
        Check.yes("lines from " + first.trim() + " to " + last.trim(), start > 0 && length > 0);
        return lines.subList(start, start + Math.max(0, length)).stream().map(String::trim)
                .collect(Collectors.joining("\n"));
    }

    private static void callsAreNamed(List<String> page) {
        for (Method method : RootedWords.class.getDeclaredMethods()) {
            if (Modifier.isPublic(method.getModifiers())) {
                Check.same("rows of " + method.getName() + "()", rows(page, method).size(), 1);
            }
        }
        Check.yes("NONE", page.stream().anyMatch(line -> line.contains("`NONE` (-1)")));
    }

    private static List<String> rows(List<String> page, Method method) {
        return page.stream().filter(line -> line.startsWith("| `" + method.getName() + "("))
                .collect(Collectors.toList());
    }

    /** Each row names what its call throws, in the order of the face; "down" is IllegalStateException. */
    private static void exceptionsAreNamed(List<String> page) {
        for (Method method : RootedWords.class.getDeclaredMethods()) {
            if (!Modifier.isPublic(method.getModifiers())) {
                continue;
            }
            String due = Arrays.stream(method.getExceptionTypes()).map(Class::getSimpleName)
                    .collect(Collectors.joining(" "));
            String named = rows(page, method).stream()
                    .flatMap(row -> Arrays.stream(row.split("\\|")[3].replace("`down`", "`IllegalStateException`")
                            .split("`")))
                    .filter(word -> word.endsWith("Exception")).collect(Collectors.joining(" "));
            Check.same("what " + method.getName() + "() throws", named, due);
        }
    }

    private static void testsAreNamed(List<String> page) throws IOException {
        Check.yes(".ci/run", page.contains("    .ci/run"));
        try (Stream<Path> files = Files.list(TESTS)) {
            files.map(file -> file.getFileName().toString().replace(".java", "")).forEach(name ->
                    Check.yes(name + " is named", page.stream().anyMatch(line -> line.contains("`" + name + "`"))));
        }
    }
}
