import java.io.IOException;
import java.nio.file.Files;
import java.nio.file.Path;
import java.util.List;
import java.util.Set;
import java.util.regex.Matcher;
import java.util.regex.Pattern;

/** The source keeps to LANGUAGE.md, as far as its words show it. It is run in the project's folder. */
final class LanguageTest {
    private static final List<String> NEVER = List.of("throw", "throws", "try", "catch", "finally", "synchronized", "assert",
            "package", "native", "volatile", "transient", "instanceof", "double", "float", "var", "protected", "yield",
            "equals", "hashCode", "toString", "Thread", "Random", "Scanner", "Object", "Class", "Exception");
    private static final Set<String> LIBRARY = Set.of("System.arraycopy", "Arrays.fill", "Math.min", "Math.max");
    private static final int LONGEST_METHOD = 60;

    private static final Check CHECK = new Check();

    public static void main(String[] args) throws IOException {
        String source = Files.readString(Path.of("src/main/java/SlipHunt.java"));
        for (int i = 0; i < source.length(); i++) {
            CHECK.that("sign " + (int) source.charAt(i), source.charAt(i) < 128);
        }
        String code = source.replaceAll("(?s)/\\*.*?\\*/", "").replaceAll("//[^\n]*", "");
        String bare = code.replaceAll("\"[^\"\n]*\"", "\"\"").replaceAll("'.'", "''");
        for (String word : NEVER) {
            CHECK.that("it says " + word, !Pattern.compile("\\b" + word + "\\b").matcher(bare).find());
        }
        CHECK.that("a lambda", !bare.contains("->"));
        CHECK.that("a method reference", !bare.contains("::"));
        CHECK.that("a note to the compiler", !bare.contains("@"));
        CHECK.that("texts joined by +", !bare.contains("\" +") && !bare.contains("+ \""));
        Matcher imports = Pattern.compile("\\bimport ([\\w.* ]+);").matcher(bare);
        while (imports.find()) {
            CHECK.same("import " + imports.group(1), 0, "java.util.Arrays".compareTo(imports.group(1)));
        }
        Matcher library = Pattern.compile("\\b(System|Arrays|Math|Integer|Long|String|List|StringBuilder)\\.\\w+").matcher(bare);
        while (library.find()) {
            CHECK.that(library.group(), LIBRARY.contains(library.group()));
        }
        newOnlyAtFirst(bare);
        methodsAreShort(code);
        CHECK.end("LanguageTest");
    }

    /** No object is made but with another one: what a call needs stands ready. */
    private static void newOnlyAtFirst(String bare) {
        String method = "";
        for (String line : bare.split("\n")) {
            Matcher m = Pattern.compile("^(?: {4}| {8})(?:\\w+ )*(\\w+)\\(.*\\) \\{$").matcher(line);
            if (m.find()) {
                method = m.group(1);
            } else if (line.equals("    }") || line.equals("        }")) {
                method = "";
            }
            CHECK.that("made in " + method + ": " + line.strip(),
                    !line.contains("new ") || method.isEmpty() || Character.isUpperCase(method.charAt(0)));
        }
    }

    private static void methodsAreShort(String code) {
        int lines = 0;
        for (String line : code.split("\n")) {
            boolean isEnd = line.equals("    }") || line.equals("        }");
            boolean isHead = line.matches("^(?: {4}| {8})\\S.*\\{$");
            lines = isHead ? 1 : lines + 1;
            CHECK.that("a method of " + lines + " lines ends with " + line, !isEnd || lines <= LONGEST_METHOD || line.length() == 5);
        }
    }
}
