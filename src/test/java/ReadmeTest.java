import java.io.IOException;
import java.lang.reflect.Member;
import java.lang.reflect.Modifier;
import java.net.URL;
import java.net.URLClassLoader;
import java.nio.file.Files;
import java.nio.file.Path;
import java.util.Arrays;
import java.util.regex.Matcher;
import java.util.regex.Pattern;
import java.util.stream.Stream;
import javax.tools.ToolProvider;

/** README.md: its example answers what its comments say, and it names the whole face and every test. */
public final class ReadmeTest {
    private static final Pattern ANSWER = Pattern.compile("int (\\w+) = .*;\\s*// (-?\\d+|[A-Z]+_[A-Z]+)\\b.*");

    public static void main(String[] args) throws Exception {
        Due due = new Due();
        String readme = Files.readString(Path.of("README.md"));
        example(due, readme);
        namesTheFace(due, readme);
        namesEveryTest(due, readme);
        due.end();
    }

    private static void example(Due due, String readme) throws Exception {
        int start = readme.indexOf("```java") + "```java".length();
        String[] lines = readme.substring(start, readme.indexOf("```", start)).split("\n");
        StringBuilder pairs = new StringBuilder();
        for (String line : lines) {
            Matcher answer = ANSWER.matcher(line);
            if (answer.matches()) {
                String want = answer.group(2).replaceFirst("^(?=[A-Z])", "BlockSchedOpt.");
                pairs.append("{" + answer.group(1) + ", " + want + "},");
            } else if (line.startsWith("int ")) {
                due.fail("README.md does not tell the answer of " + line);
            }
        }
        for (int[] pair : run("public final class Example { public static int[][] pairs() {\n"
                + String.join("\n", lines) + "\nreturn new int[][] {" + pairs + "}; } }")) {
            due.is("an answer of the example", pair[0], pair[1]);
        }
    }

    private static int[][] run(String source) throws Exception {
        Path folder = Files.createTempDirectory("readme");
        Path file = Files.writeString(folder.resolve("Example.java"), source);
        String path = System.getProperty("java.class.path");
        ToolProvider.getSystemJavaCompiler().run(null, null, null,
                "-cp", path, "-d", folder.toString(), file.toString());
        try (URLClassLoader loader = new URLClassLoader(new URL[] {folder.toUri().toURL()})) {
            return (int[][]) loader.loadClass("Example").getMethod("pairs").invoke(null);
        } finally {
            Files.deleteIfExists(folder.resolve("Example.class"));
            Files.delete(file);
            Files.delete(folder);
        }
    }

    private static void namesTheFace(Due due, String readme) {
        Class<?> face = BlockSchedOpt.class;
        Stream<Member> members = Stream.concat(Arrays.stream(face.getDeclaredFields()),
                Arrays.stream(face.getDeclaredMethods()));
        members.filter(member -> Modifier.isPublic(member.getModifiers()))
                .map(Member::getName)
                .filter(name -> !readme.matches("(?s).*`" + name + "\\b.*"))
                .forEach(name -> due.fail("README.md does not name " + name));
    }

    private static void namesEveryTest(Due due, String readme) throws IOException {
        try (Stream<Path> files = Files.list(Path.of("src/test/java"))) {
            files.map(file -> file.getFileName().toString().replace(".java", ""))
                    .filter(name -> name.endsWith("Test") && !readme.contains("`" + name + "`"))
                    .forEach(name -> due.fail("README.md does not name " + name));
        }
    }
}
