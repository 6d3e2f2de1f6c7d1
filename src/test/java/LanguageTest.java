import java.io.IOException;
import java.nio.file.Files;
import java.nio.file.Path;
import java.util.ArrayList;
import java.util.List;
import java.util.Set;
import java.util.regex.Matcher;
import java.util.regex.Pattern;

/** What a look at the source can tell of the rules of LANGUAGE.md. */
public final class LanguageTest {
    private static final Path SOURCE = Path.of("src/main/java/CloneOutliner.java");
    private static final Set<String> IMPORTS = Set.of("java.util.NoSuchElementException", "java.util.ArrayList",
        "java.util.List", "java.util.Arrays", "java.util.Iterator");
    private static final Set<String> EXCEPTIONS = Set.of("IllegalStateException", "IllegalArgumentException",
        "IndexOutOfBoundsException", "ArithmeticException", "UnsupportedOperationException",
        "NoSuchElementException", "RuntimeException");
    private static final Set<String> STATICS = Set.of("System.arraycopy", "Math.max", "Math.min", "Math.abs",
        "Long.bitCount", "Integer.bitCount", "Arrays.fill", "Arrays.copyOf", "Arrays.copyOfRange");
    /** With a depth that is guarded, try would be allowed, too; the program gets along without it. */
    private static final Set<String> FORBIDDEN = Set.of("try", "catch", "finally", "synchronized", "assert", "volatile",
        "native", "transient", "strictfp", "Object", "Thread", "Random", "protected", "var");

    private static final List<String> faults = new ArrayList<>();

    public static void main(String[] args) throws IOException {
        String source = bare(Files.readString(SOURCE));
        checkWords(source);
        checkCalls(source);
        checkBlocks(source);
        for (String fault : faults) {
            System.out.println(fault);
        }
        System.out.println("LanguageTest: " + faults.size() + " faults");
        if (!faults.isEmpty()) {
            System.exit(1);
        }
    }

    /** The source without comments and with empty texts, line by line as it was. */
    private static String bare(String source) {
        Matcher comments = Pattern.compile("/\\*.*?\\*/|//[^\n]*", Pattern.DOTALL).matcher(source);
        String code = comments.replaceAll(found -> found.group().replaceAll("[^\n]", " "));
        return code.replaceAll("\"(?:[^\"\\\\\n]|\\\\.)*\"", "\"\"").replaceAll("'(?:[^'\\\\\n]|\\\\.)'", "' '");
    }

    private static void checkWords(String source) {
        for (Matcher word = Pattern.compile("\\b[A-Za-z]+\\b").matcher(source); word.find();) {
            expect(!FORBIDDEN.contains(word.group()), "the word " + word.group());
        }
        for (Matcher line = Pattern.compile("import ([\\w.]+);").matcher(source); line.find();) {
            expect(IMPORTS.contains(line.group(1)), "the import of " + line.group(1));
        }
        expect(!source.contains("->") && !source.contains("::"), "a lambda or a method reference");
        expect(!source.matches("(?s).*static\\s*\\{.*"), "a static initialiser");
        expect(!Pattern.compile("\"\" *\\+|\\+ *\"\"").matcher(source).find(), "texts joined by +");
    }

    private static void checkCalls(String source) {
        for (Matcher call = Pattern.compile("\\b([A-Z]\\w*\\.[a-z]\\w*)\\(").matcher(source); call.find();) {
            expect(STATICS.contains(call.group(1)), "the call of " + call.group(1));
        }
        for (Matcher made = Pattern.compile("\\bthrow\\b([^;]*);").matcher(source); made.find();) {
            String name = made.group(1).replaceAll("^ new (\\w+)\\((?:\"\")?\\)$", "$1");
            expect(EXCEPTIONS.contains(name), "what is thrown: " + made.group(1));
        }
    }

    /** Methods stand one or two braces deep; each has at most sixty lines and seven parameters. */
    private static void checkBlocks(String source) {
        Pattern head = Pattern.compile(" {4}(?: {4})?(?:[\\w\\[\\]]+ )+\\w+\\(([^)]*)\\)[^;{]*\\{");
        Matcher found = head.matcher(source);
        int methods = 0;
        while (found.find()) {
            methods++;
            int lines = 1;
            int open = 1;
            for (int at = found.end(); at < source.length() && open > 0; at++) {
                char sign = source.charAt(at);
                lines += sign == '\n' ? 1 : 0;
                open += sign == '{' ? 1 : sign == '}' ? -1 : 0;
            }
            expect(lines <= 60, "more than sixty lines: " + found.group());
            expect(found.group(1).split(",").length <= 7, "more than seven parameters: " + found.group());
        }
        expect(methods > 100, "the methods were not found");
    }

    private static void expect(boolean isSo, String fault) {
        if (!isSo) {
            faults.add(fault);
        }
    }
}
