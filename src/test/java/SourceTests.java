import java.io.IOException;
import java.lang.reflect.Modifier;
import java.nio.file.Files;
import java.nio.file.Path;
import java.util.ArrayDeque;
import java.util.Arrays;
import java.util.Deque;
import java.util.List;
import java.util.regex.Matcher;
import java.util.regex.Pattern;

/** What a look at the text can tell of ../shared/LANGUAGE.md, by its rules; the argument is the program's file. */
final class SourceTests {
    private static final String[][] FORBIDDEN = {
        {"rule 1", "\\bpackage\\b|\\bprotected\\b"},
        {"rule 2", "::|^(?!\\s*(case|default)\\b).*->"},
        {"rule 4", "\\bSystem\\.(?!arraycopy\\b)|\\w+Exact\\(|\\bhashCode\\b"},
        {"rule 5", "\\bstatic\\s*\\{|\\bstatic\\b(?!.*\\bfinal\\b)[^({]*[=;]"},
        {"rule 6", "\\bfinally\\b|\\bsynchronized\\b|\\bassert\\b|\\btry\\s*\\(|\\bcatch\\s*\\((Throwable|Exception|Error)\\b"},
        {"rule 13", "\\bcurrentTimeMillis\\b|\\bnanoTime\\b|\\bRandom\\b|\\bMath\\.random\\b|\\bThread\\b"},
    };
    private static final List<String> IMPORTS = List.of("java.util.NoSuchElementException", "java.util.ArrayList",
            "java.util.List", "java.util.Arrays", "java.util.Iterator");
    private static final List<String> THROWN = List.of("IllegalStateException", "IllegalArgumentException",
            "IndexOutOfBoundsException", "ArithmeticException", "UnsupportedOperationException",
            "NoSuchElementException", "RuntimeException");
    private static final int LONGEST_METHOD = 60;

    private SourceTests() {
    }

    public static void main(String[] args) throws IOException {
        String text = withoutComments(Files.readString(Path.of(args[0])));
        stringsAreAscii(text);
        String code = text.replaceAll("\"(\\\\.|[^\"\\\\])*\"", "\"\"").replaceAll("'(\\\\.|[^'\\\\])'", "' '");
        Check.yes("there is code", code.contains("public final class RootedWords"));
        String[] lines = code.split("\n");
        for (int i = 0; i < lines.length; i++) {
            forbidden(lines[i], "line " + (i + 1));
        }
        importsAndThrows(code);
        methodsAreShort(lines);
        sizesAreSmall();
        Check.end("SourceTests");
    }

    /** Blanks comments but keeps the lines, so that their numbers stay true. */
    private static String withoutComments(String text) {
        Matcher found = Pattern.compile("\"(\\\\.|[^\"\\\\\n])*\"|'(\\\\.|[^'\\\\\n])'|//[^\n]*|/\\*.*?\\*/",
                Pattern.DOTALL).matcher(text);
        return found.replaceAll(m -> Matcher.quoteReplacement(
                m.group().startsWith("/") ? m.group().replaceAll("[^\n]", "") : m.group()));
    }

    private static void stringsAreAscii(String text) {
        Check.yes("rule 4: constants hold the signs 1 to 127", text.chars().allMatch(c -> c > 0 && c < 128));
    }

    private static void forbidden(String line, String at) {
        for (String[] rule : FORBIDDEN) {
            Matcher found = Pattern.compile(rule[1]).matcher(line);
            Check.no(rule[0] + ", " + at + ": " + line.trim(), found.find());
        }
    }

    private static void importsAndThrows(String code) {
        Matcher imported = Pattern.compile("\\bimport\\s+([^;]*);").matcher(code);
        while (imported.find()) {
            Check.yes("rule 4, import " + imported.group(1), IMPORTS.contains(imported.group(1)));
        }
        Matcher thrown = Pattern.compile("\\bthrow\\b\\s*(new\\s+)?([\\w.]+)").matcher(code);
        while (thrown.find()) {
            String name = thrown.group(2).replace("java.util.", "");
            Check.yes("rule 6, throw " + thrown.group(), thrown.group(1) != null && THROWN.contains(name));
        }
    }

    /** A method begins where a brace opens behind a list of parameters, straight inside a class. */
    private static void methodsAreShort(String[] lines) {
        Deque<Integer> starts = new ArrayDeque<>();
        StringBuilder head = new StringBuilder();
        boolean inMethod = false;
        int depth = 0;
        for (int i = 0; i < lines.length; i++) {
            for (char c : lines[i].toCharArray()) {
                if (c == '{') {
                    boolean type = head.toString().matches("(?s).*\\b(class|interface|enum|record)\\s+\\w+.*");
                    starts.push(!type && !inMethod && head.indexOf("(") >= 0 ? i : -1);
                    inMethod = inMethod || starts.peek() >= 0;
                    depth++;
                } else if (c == '}' && depth > 0) {
                    depth--;
                    int start = starts.pop();
                    inMethod = start < 0 && inMethod;
                    Check.no("rule 11, a method too long from line " + (start + 1),
                            start >= 0 && i - start > LONGEST_METHOD);
                }
                if (c == '{' || c == '}' || c == ';') {
                    head.setLength(0);
                } else {
                    head.append(c);
                }
            }
            head.append('\n');
        }
        Check.same("braces are in pairs", depth, 0);
    }

    private static void sizesAreSmall() {
        Class<?>[] inside = RootedWords.class.getDeclaredClasses();
        Check.yes("rule 11: some twelve classes", inside.length < 12);
        sizeOf(RootedWords.class);
        for (Class<?> each : inside) {
            sizeOf(each);
        }
    }

    private static void sizeOf(Class<?> type) {
        long fields = Arrays.stream(type.getDeclaredFields())
                .filter(f -> !Modifier.isStatic(f.getModifiers())).count();
        Check.yes("rule 11: some twenty fields in " + type.getName(), fields <= 20);
        Arrays.stream(type.getDeclaredMethods()).forEach(m -> Check.yes("rule 11: at most seven parameters of "
                + m.getName(), m.getParameterCount() <= 7));
    }
}
