import java.io.IOException;
import java.io.UncheckedIOException;
import java.nio.charset.StandardCharsets;
import java.nio.file.Files;
import java.nio.file.Path;
import java.util.List;
import java.util.Set;
import java.util.TreeSet;
import java.util.regex.Matcher;
import java.util.regex.Pattern;

/** The rules of LANGUAGE.md that can be seen from the words of the source; the tests run where src is. */
final class LanguageTests {
    private static final Path SOURCE = Path.of("src", "main", "java", "PermitPark.java");
    private static final int METHOD_LINES_MOST = 60;
    /** Words that no rule leaves to the program, and some that a rule does leave but that it does well without. */
    private static final List<String> WORDS = List.of("package", "import", "try", "catch", "finally", "synchronized", "assert",
        "volatile", "transient", "native", "strictfp", "instanceof", "Object", "Thread", "Random", "Runtime", "Process",
        "currentTimeMillis", "nanoTime", "identityHashCode", "hashCode", "toString", "equals", "getMessage", "Class", "NaN",
        "NullPointerException", "ArrayIndexOutOfBoundsException", "ClassCastException", "NegativeArraySizeException",
        "ArrayStoreException", "Throwable", "Exception", "Error", "Long", "Integer", "File", "Scanner", "printf", "println");
    private static final Set<String> THROWN = Set.of("IllegalStateException", "IllegalArgumentException",
        "IndexOutOfBoundsException");
    private static final Set<String> LIBRARY = Set.of("System.arraycopy", "Math.max");

    private LanguageTests() {
    }

    static void run() {
        Check.test("rule 4: the source is ASCII", LanguageTests::ascii);
        Check.test("rules 3, 4, 6, 10, 13: words that the source is without", LanguageTests::words);
        Check.test("rule 3: no lambda, no method reference", LanguageTests::noLambdas);
        Check.test("rule 4: the library that is used", LanguageTests::library);
        Check.test("rule 5: no static block", LanguageTests::noStaticBlocks);
        Check.test("rule 6: what is thrown, and how", LanguageTests::thrown);
        Check.test("rule 10: texts are not joined by +", LanguageTests::noJoining);
        Check.test("rule 11: methods are short", LanguageTests::shortMethods);
    }

    private static String source() {
        try {
            return Files.readString(SOURCE, StandardCharsets.ISO_8859_1);
        } catch (IOException e) {
            throw new UncheckedIOException(e);
        }
    }

    /** The source without comments; written texts and signs are empty, as what they say is no code. */
    private static String code() {
        Pattern apart = Pattern.compile("\"(?:[^\"\\\\]|\\\\.)*\"|'(?:[^'\\\\]|\\\\.)+'|//[^\n]*|(?s:/\\*.*?\\*/)");
        return apart.matcher(source()).replaceAll(found -> found.group().startsWith("/") ? " "
            : found.group().startsWith("'") ? "' '" : "\"\"");
    }

    private static void ascii() {
        for (char sign : source().toCharArray()) {
            Check.due("sign " + (int) sign + " is plain", sign == '\n' || sign >= 32 && sign <= 126, true);
        }
    }

    private static void words() {
        for (String word : WORDS) {
            Check.due("the word " + word, Pattern.compile("\\b" + word + "\\b").matcher(code()).find(), false);
        }
    }

    private static void noLambdas() {
        Check.due("->", code().contains("->"), false);
        Check.due("::", code().contains("::"), false);
    }

    private static void library() {
        Set<String> used = new TreeSet<>();
        Matcher call = Pattern.compile("\\b(System|Math|Arrays|Character|String|StringBuilder|List)\\.\\w+").matcher(code());
        while (call.find()) {
            used.add(call.group());
        }
        used.removeAll(LIBRARY);
        Check.dueText("other library", used.toString(), "[]");
    }

    private static void noStaticBlocks() {
        Check.due("static {", Pattern.compile("\\bstatic\\s*\\{").matcher(code()).find(), false);
    }

    private static void thrown() {
        Matcher one = Pattern.compile("\\bthrow\\b([^;]*);").matcher(code());
        Pattern form = Pattern.compile("\\s+new (\\w+)\\((?:\"\")?\\)");
        int found = 0;
        while (one.find()) {
            Matcher written = form.matcher(one.group(1));
            boolean isRight = written.matches() && THROWN.contains(written.group(1));
            Check.due("throw" + one.group(1) + " is as rule 6 wants it", isRight, true);
            found++;
        }
        Check.due("something is thrown", found > 0, true);
    }

    private static void noJoining() {
        Check.due("a text and a +", Pattern.compile("\"\\s*\\+|\\+=?\\s*\"").matcher(code()).find(), false);
    }

    /** A method stands at one or two levels of four blanks and ends with a brace at the same level. */
    private static void shortMethods() {
        String[] lines = code().split("\n", -1);
        int longest = 0;
        for (int level = 4; level <= 8; level += 4) {
            String blanks = " ".repeat(level);
            int start = -1;
            for (int i = 0; i < lines.length; i++) {
                String line = lines[i];
                boolean isHere = line.startsWith(blanks) && !line.startsWith(blanks + " ");
                boolean isClass = Pattern.compile("\\b(class|enum|interface|record)\\b").matcher(line).find();
                if (isHere && line.contains("(") && !line.endsWith(";") && !isClass) {
                    start = i;
                } else if (isHere && start >= 0 && line.equals(blanks + "}")) {
                    longest = Math.max(longest, i - start + 1);
                    Check.due("lines up to " + (i + 1), i - start + 1 <= METHOD_LINES_MOST, true);
                    start = -1;
                }
            }
        }
        Check.due("methods were found", longest > 30, true);
    }
}
