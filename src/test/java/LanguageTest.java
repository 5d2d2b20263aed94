import java.io.IOException;
import java.nio.charset.StandardCharsets;
import java.nio.file.Files;
import java.nio.file.Path;
import java.util.List;

/** Signs in the program's text that LANGUAGE.md rules out. Run where the project lies. */
public final class LanguageTest {
    private static final String[] RULED_OUT = {
        "->", "::", "catch", "finally", "synchronized", "assert", "static {", "protected", "Exact(", "new Object",
        "null", "double", "float", "Object ", "BigInteger", "String", "Collections", "var ", "yield", "record ",
        "hashCode", "Random", "System.nanoTime", "System.currentTimeMillis", "System.out", "Thread", "@"
    };

    public static void main(String[] args) throws IOException {
        List<String> lines = Files.readAllLines(Path.of("src/main/java/StepBench.java"), StandardCharsets.UTF_8);
        int length = 0;
        int classes = 0;
        for (int i = 0; i < lines.size(); i++) {
            String line = withoutTexts(lines.get(i));
            oneLine(i + 1, line);
            length = isMethodStart(line) ? 1 : length + 1;
            if (line.equals("    }") || line.equals("        }")) {
                Due.is("line " + (i + 1) + ": a method of at most 60 lines", true, length <= 60);
            }
            classes += line.contains(" class ") ? 1 : 0;
        }
        Due.is("at most twelve classes", true, classes <= 12);
        Due.close("LanguageTest");
    }

    /** Comments and the texts of exceptions may say what they like, in plain letters. */
    private static String withoutTexts(String line) {
        for (int i = 0; i < line.length(); i++) {
            Due.is("a plain letter in: " + line, true, line.charAt(i) >= 32 && line.charAt(i) < 127);
        }
        String code = line.replaceAll("\"[^\"]*\"", "\"\"");
        String trimmed = code.trim();
        if (trimmed.startsWith("/*") || trimmed.startsWith("*") || trimmed.startsWith("//")) {
            return "";
        }
        return code;
    }

    private static void oneLine(int number, String line) {
        for (String sign : RULED_OUT) {
            Due.is("line " + number + " holds " + sign, false, line.contains(sign));
        }
        if (line.startsWith("import ")) {
            Due.is("line " + number + ": " + line, true,
                line.equals("import java.util.Arrays;") || line.equals("import java.util.NoSuchElementException;"));
        }
        Due.is("line " + number + " is not longer than 120", true, line.length() <= 120);
    }

    private static boolean isMethodStart(String line) {
        return line.matches(" {4}( {4})?[\\w<].*\\) ?(throws .*)?\\{") && !line.matches(" *(if|for|while|switch) .*");
    }
}
