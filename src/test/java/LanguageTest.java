import java.io.IOException;
import java.nio.charset.StandardCharsets;
import java.nio.file.Files;
import java.nio.file.Path;
import java.util.List;

/** What of LANGUAGE.md can be seen from the program's text alone. Run where the project lies. */
public final class LanguageTest {
    private static final String[] RULED_OUT = {
        "::", "finally", "synchronized", "assert ", "static {", "protected ", "Exact(", "BigInteger", "Collections",
        "hashCode", "toString(", "getMessage", "Random", "System.nanoTime", "System.currentTimeMillis", "System.out",
        "System.err", "System.exit", "Thread", "Math.sqrt", "Math.pow", "HashMap", "Scanner", "java.io", "java.nio"
    };
    /** What the machine throws, and the classes above it, may not be caught. */
    private static final String[] NEVER_CAUGHT = {
        "ArrayIndexOutOfBounds", "StringIndexOutOfBounds", "NullPointer", "ClassCast", "NegativeArraySize",
        "ArrayStore", "Throwable", "Error", "(Exception", " Exception", "RuntimeException"
    };
    private static final List<String> IMPORTS = List.of(
        "import java.util.ArrayList;", "import java.util.Arrays;", "import java.util.Iterator;",
        "import java.util.List;", "import java.util.NoSuchElementException;");

    public static void main(String[] args) throws IOException {
        List<String> lines = Files.readAllLines(Path.of("src/main/java/StepBench.java"), StandardCharsets.UTF_8);
        int length = 0;
        int classes = 0;
        for (int i = 0; i < lines.size(); i++) {
            String line = withoutTexts(lines.get(i));
            oneLine(i + 1, line);
            length = isMethodStart(line) ? 1 : length + 1;
            if (line.equals("    }") || line.equals("        }")) {
                Due.is("line " + (i + 1) + ": a method of some sixty lines", true, length <= 66);
            }
            classes += line.contains(" class ") ? 1 : 0;
        }
        Due.is("some twelve classes", true, classes <= 13);
        Due.close("LanguageTest");
    }

    /** Comments and the texts of exceptions may say what they like, in plain letters. */
    private static String withoutTexts(String line) {
        for (int i = 0; i < line.length(); i++) {
            Due.is("a plain letter in: " + line, true, line.charAt(i) >= 32 && line.charAt(i) < 127);
        }
        String code = line.replaceAll("\"[^\"]*\"", "\"\"");
        String trimmed = code.trim();
        if (trimmed.startsWith("/*") || trimmed.startsWith("*") || trimmed.startsWith("//")) {
            return "";
        }
        return code;
    }

    private static void oneLine(int number, String line) {
        for (String sign : RULED_OUT) {
            Due.is("line " + number + " holds " + sign, false, line.contains(sign));
        }
        Due.is("line " + number + " holds a lambda", false, line.contains("->") && !isCase(line));
        if (line.contains("catch (")) {
            for (String name : NEVER_CAUGHT) {
                Due.is("line " + number + " catches " + name, false, line.contains(name));
            }
        }
        if (line.startsWith("import ")) {
            Due.is("line " + number + ": " + line, true, IMPORTS.contains(line));
        }
        if (isMethodStart(line)) {
            Due.is("line " + number + ": at most seven parameters", true, line.split(",", -1).length <= 7 + thrown(line));
        }
    }

    private static boolean isCase(String line) {
        return line.trim().startsWith("case ") || line.trim().startsWith("default ");
    }

    private static int thrown(String line) {
        int at = line.indexOf(" throws ");
        return at < 0 ? 0 : line.substring(at).split(",", -1).length - 1;
    }

    private static boolean isMethodStart(String line) {
        return line.matches(" {4}( {4})?[\\w<].*\\) ?(throws .*)?\\{") && !line.matches(" *(if|for|while|switch) .*");
    }
}
