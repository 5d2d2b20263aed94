import java.io.File;
import java.io.IOException;
import java.nio.charset.StandardCharsets;
import java.nio.file.Files;
import java.nio.file.Path;
import java.util.ArrayList;
import java.util.Arrays;
import java.util.List;
import java.util.concurrent.ExecutorService;
import java.util.concurrent.Executors;
import java.util.concurrent.TimeUnit;
import java.util.regex.Matcher;
import java.util.regex.Pattern;

/**
 * Breaks the program at one place after another and tells the breaks that no test notices. Run by hand where
 * the project lies, for it takes some ten minutes:
 *
 * <p>java src/tools/Breaks.java FROM TO TEST [TEST ..], the lines FROM to TO of the program being broken.
 *
 * <p>What is told has to be read: a break that changes no answer (a guard that never comes up, i != n instead
 * of i < n in a loop) is none. All others want a test.
 */
public final class Breaks {
    private static final Path SOURCE = Path.of("src/main/java/StepBench.java");

    /** What a break puts for what. */
    private static final String[][] SWAPS = {
        {" <= ", " < "}, {" <= ", " == "}, {" >= ", " > "}, {" >= ", " == "}, {" < ", " <= "}, {" < ", " != "},
        {" > ", " >= "}, {" > ", " != "}, {" == ", " != "}, {" != ", " == "}, {" && ", " || "}, {" || ", " && "},
        {" + ", " - "}, {" - ", " + "}, {" * ", " + "}, {" / ", " * "}, {" % ", " / "}, {"NONE", "SPENT"},
        {"SPENT", "NONE"}, {"return true", "return false"}, {"return false", "return true"},
        {"Math.min(", "Math.max("}, {"Math.max(", "Math.min("}, {"Math.abs(", "("},
        {"new IllegalStateException", "new IllegalArgumentException"},
        {"new IllegalArgumentException", "new IllegalStateException"},
        {"new NoSuchElementException", "new ArithmeticException"},
        {"new ArithmeticException", "new NoSuchElementException"}
    };

    private record Break(int line, String text) {
    }

    private Breaks() {
    }

    public static void main(String[] args) throws IOException, InterruptedException {
        int from = Integer.parseInt(args[0]);
        int to = Integer.parseInt(args[1]);
        String[] tests = Arrays.copyOfRange(args, 2, args.length);
        List<String> lines = Files.readAllLines(SOURCE, StandardCharsets.UTF_8);
        List<Break> breaks = new ArrayList<>();
        for (int i = from - 1; i < lines.size() && i < to; i++) {
            String start = lines.get(i).trim();
            if (!start.startsWith("/*") && !start.startsWith("*") && !start.startsWith("//")) {
                breaksOf(i, lines.get(i), breaks);
            }
        }
        Path out = Files.createTempDirectory("breaks");
        Path built = Files.createDirectory(out.resolve("tests"));
        List<String> compile = new ArrayList<>(List.of("javac", "-d", built.toString(), SOURCE.toString()));
        for (File test : new File("src/test/java").listFiles()) {
            compile.add(test.getPath());
        }
        if (!passes(compile)) {
            throw new IllegalStateException("the tests do not compile");
        }
        ExecutorService pool = Executors.newFixedThreadPool(Runtime.getRuntime().availableProcessors());
        for (int i = 0; i < breaks.size(); i++) {
            Break one = breaks.get(i);
            Path own = Files.createDirectories(out.resolve("break" + i));
            pool.execute(() -> tell(one, lines, own, built, tests));
        }
        pool.shutdown();
        pool.awaitTermination(10, TimeUnit.HOURS);
        System.out.println(breaks.size() + " breaks");
    }

    private static void breaksOf(int at, String line, List<Break> breaks) {
        for (String[] swap : SWAPS) {
            for (int i = line.indexOf(swap[0]); i >= 0; i = line.indexOf(swap[0], i + 1)) {
                breaks.add(new Break(at, line.substring(0, i) + swap[1] + line.substring(i + swap[0].length())));
            }
        }
        boolean isText = line.contains("case ") || line.contains("throw ");
        Matcher number = Pattern.compile("(?<![\\w.])\\d+(?!\\w*\\.)").matcher(isText ? "" : line);
        while (number.find()) {
            long value = Long.parseLong(number.group());
            breaks.add(new Break(at, line.substring(0, number.start()) + (value + 1) + line.substring(number.end())));
            breaks.add(new Break(at, line.substring(0, number.start()) + "(" + (value - 1)
                + (line.startsWith("L", number.end()) ? "L)" + line.substring(number.end() + 1)
                    : ")" + line.substring(number.end()))));
        }
        Matcher asked = Pattern.compile("( *if \\()(.*)(\\) \\{)").matcher(line);
        if (asked.matches()) {
            breaks.add(new Break(at, asked.group(1) + "false && (" + asked.group(2) + ")" + asked.group(3)));
            breaks.add(new Break(at, asked.group(1) + "true || (" + asked.group(2) + ")" + asked.group(3)));
        }
        if (line.matches(" *(?!return|throw|break|private|public|final|int |long |boolean )[a-zA-Z].*;")) {
            breaks.add(new Break(at, ";"));
        }
    }

    private static void tell(Break one, List<String> lines, Path own, Path built, String[] tests) {
        try {
            List<String> broken = new ArrayList<>(lines);
            broken.set(one.line(), one.text());
            Path source = own.resolve("StepBench.java");
            Files.write(source, broken, StandardCharsets.UTF_8);
            boolean survives = passes(List.of("javac", "-nowarn", "-d", own.toString(), source.toString()));
            for (int i = 0; i < tests.length && survives; i++) {
                survives = passes(List.of("java", "-cp", own + File.pathSeparator + built, tests[i]));
            }
            if (survives) {
                System.out.println("line " + (one.line() + 1) + "\n - " + lines.get(one.line()).trim() + "\n + "
                    + one.text().trim());
            }
        } catch (IOException | InterruptedException e) {
            System.out.println("line " + (one.line() + 1) + ": " + e);
        } finally {
            for (File file : own.toFile().listFiles()) {
                file.delete();
            }
        }
    }

    /** Whether a command ends well within a minute: a break may run on for ever. */
    private static boolean passes(List<String> command) throws IOException, InterruptedException {
        Process process = new ProcessBuilder(command).redirectErrorStream(true)
            .redirectOutput(ProcessBuilder.Redirect.DISCARD).start();
        boolean ended = process.waitFor(1, TimeUnit.MINUTES);
        process.destroyForcibly();
        return ended && process.exitValue() == 0;
    }
}
