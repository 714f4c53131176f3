import java.net.URL;
import java.net.URLClassLoader;
import java.nio.file.Files;
import java.nio.file.Path;
import java.util.ArrayList;
import java.util.List;
import java.util.regex.Matcher;
import java.util.regex.Pattern;
import javax.tools.ToolProvider;

/** README.md's example compiles, and each call in it answers what the comment behind it begins with. */
public final class ReadmeTest {
    private static final Pattern TOLD = Pattern.compile("(?:int (\\w+) = )?(x\\..*\\)); +// (-?\\d+|[A-Z]+):.*");
    private static final int FEWEST = 10;

    public static void main(String[] args) throws Exception {
        List<String> calls = new ArrayList<>();
        Path folder = Files.createTempDirectory("readme");
        Path source = folder.resolve("Example.java");
        Path made = folder.resolve("Example.class");
        Files.writeString(source, exampleAsClass(Files.readString(Path.of("README.md")), calls));
        String classes = System.getProperty("java.class.path");
        int exit = ToolProvider.getSystemJavaCompiler().run(null, null, null, "-cp", classes, "-d", "" + folder, "" + source);
        Due.is("README.md's example compiles", exit, 0);
        if (exit == 0) compare(calls, answersAndDue(folder));
        for (Path left : List.of(source, made, folder)) Files.deleteIfExists(left);
        Due.end("ReadmeTest");
    }

    private static String exampleAsClass(String readme, List<String> calls) {
        int start = readme.indexOf("```java\n") + 8;
        StringBuilder all = new StringBuilder("public class Example { public static java.util.List<long[]> run() {\n"
            + "java.util.List<long[]> all = new java.util.ArrayList<>();\n");
        for (String line : readme.substring(start, readme.indexOf("```", start)).split("\n")) {
            Matcher told = TOLD.matcher(line);
            if (!told.matches()) {
                all.append(line).append('\n');
                continue;
            }
            String answer = told.group(1) == null ? told.group(2) : told.group(1);
            String due = told.group(3).matches("[A-Z]+") ? "BuildCache." + told.group(3) : told.group(3) + "L";
            if (told.group(1) != null) all.append(line).append('\n');
            all.append("all.add(new long[] {").append(answer).append(", ").append(due).append("});\n");
            calls.add(told.group(2));
        }
        return all.append("return all;\n}}\n").toString();
    }

    @SuppressWarnings("unchecked")
    private static List<long[]> answersAndDue(Path folder) throws Exception {
        try (URLClassLoader loader = new URLClassLoader(new URL[] {folder.toUri().toURL()})) {
            return (List<long[]>) loader.loadClass("Example").getMethod("run").invoke(null);
        }
    }

    private static void compare(List<String> calls, List<long[]> answers) {
        Due.is("README.md tells enough answers", Math.min(answers.size(), FEWEST), FEWEST);
        for (int i = 0; i < answers.size(); i++) Due.is("README.md: " + calls.get(i), answers.get(i)[0], answers.get(i)[1]);
    }
}
