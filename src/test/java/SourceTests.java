import java.io.IOException;
import java.nio.file.Files;
import java.nio.file.Path;
import java.util.List;

/** What a look at the text can tell of ../shared/LANGUAGE.md; the argument is the program's file. */
final class SourceTests {
    private static final String[] FORBIDDEN = {"->", "::", "package ", "finally", "synchronized", "assert ", "static {",
        "instanceof Object", "System.out", "currentTimeMillis", "nanoTime", "Random", "Thread", "Exact(", "catch (",
        "equals(", "hashCode", "toString", "protected ", "long ", "double ", "float "};
    private static final int LONGEST_METHOD = 60;

    private SourceTests() {
    }

    public static void main(String[] args) throws IOException {
        List<String> lines = Files.readAllLines(Path.of(args[0]));
        int start = 0;
        for (int i = 0; i < lines.size(); i++) {
            String line = lines.get(i);
            for (String word : FORBIDDEN) {
                Check.no("line " + (i + 1) + " with " + word, line.contains(word));
            }
            Check.no("an import at line " + (i + 1),
                    line.startsWith("import ") && !line.equals("import java.util.NoSuchElementException;"));
            Check.no("a static field that is not final at line " + (i + 1),
                    line.contains(" static ") && line.contains(" = ") && !line.contains(" final "));
            Check.yes("characters 1 to 127 at line " + (i + 1), line.chars().allMatch(c -> c > 0 && c < 128));
            start = line.isBlank() ? i : start;
            Check.no("a method that is too long at line " + (i + 1), i - start > LONGEST_METHOD);
        }
        Check.end("SourceTests");
    }
}
