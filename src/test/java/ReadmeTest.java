import java.io.IOException;
import java.net.URL;
import java.net.URLClassLoader;
import java.nio.file.Files;
import java.nio.file.Path;
import java.util.ArrayList;
import java.util.List;
import java.util.regex.Matcher;
import java.util.regex.Pattern;

/** README.md: its examples are compiled and run, and it names every call of the face with what it takes. */
final class ReadmeTest {
    private static final Due due = new Due();
    private static final Pattern BLOCK = Pattern.compile("(?s)```java\n(.*?)```");
    /** A line whose comment tells the answer: "int name = x.call(..);    // 5: words", or without the name. */
    private static final Pattern ANSWERED = Pattern.compile("(int (\\w+) = )?(\\w+\\.\\w+\\(.*\\)); +// (-?\\d+)(:.*)?");
    private static final Pattern CALL = Pattern.compile("(?m)^    public (?:int|long) (\\w+)\\((.*)\\) \\{$");

    public static void main(String[] args) throws Exception {
        String readme = Files.readString(Path.of("README.md"));
        names(readme);
        List<String> lines = new ArrayList<>();
        Matcher m = BLOCK.matcher(readme);
        while (m.find()) {
            lines.addAll(List.of(m.group(1).split("\n")));
        }
        examples(lines);
        due.end("ReadmeTest");
    }

    private static void names(String readme) throws IOException {
        Matcher m = CALL.matcher(Files.readString(Path.of("src/main/java/HorseGift.java")));
        int calls = 0;
        while (m.find()) {
            String call = m.group(1) + "(" + m.group(2).replaceAll("\\b(int|boolean) ", "") + ")";
            due.is("README.md names " + call, readme.contains("`" + call + "`") ? 1 : 0, 1);
            calls++;
        }
        due.is("calls of the face", calls, 29);
    }

    private static void examples(List<String> lines) throws Exception {
        StringBuilder body = new StringBuilder();
        List<String> calls = new ArrayList<>();
        List<Long> wanted = new ArrayList<>();
        for (String line : lines) {
            Matcher m = ANSWERED.matcher(line);
            if (!m.matches()) {
                due.is("README.md's comment tells an answer: " + line, line.contains("//") ? 0 : 1, 1);
                body.append(line).append('\n');
                continue;
            }
            String kept = "a[" + calls.size() + "] = ";
            body.append(m.group(1) == null ? kept + m.group(3) + ";\n" : line + "\n" + kept + m.group(2) + ";\n");
            calls.add(m.group(3));
            wanted.add(Long.valueOf(m.group(4)));
        }
        long[] got = answers(body.toString(), calls.size());
        for (int i = 0; i < got.length; i++) {
            due.is("README.md's " + calls.get(i), got[i], wanted.get(i));
        }
        due.is("answers that the examples tell", calls.size() > 10 ? 1 : 0, 1);
    }

    /** The body is compiled as a method that fills a row of answers. */
    private static long[] answers(String body, int count) throws Exception {
        Path folder = Files.createTempDirectory("readme");
        Path source = folder.resolve("Example.java");
        Path compiled = folder.resolve("Example.class");
        Files.writeString(source, "public final class Example {\npublic static void fill(long[] a) {\n" + body + "}\n}\n");
        long[] a = new long[count];
        int wrong = new ProcessBuilder("javac", "-cp", System.getProperty("java.class.path"), "-d", folder.toString(),
            source.toString()).inheritIO().start().waitFor();
        due.is("compiling README.md's examples", wrong, 0);
        if (wrong == 0) {
            try (URLClassLoader loader = new URLClassLoader(new URL[] {folder.toUri().toURL()})) {
                loader.loadClass("Example").getMethod("fill", long[].class).invoke(null, a);
            }
        }
        Files.deleteIfExists(compiled);
        Files.delete(source);
        Files.delete(folder);
        return a;
    }
}
