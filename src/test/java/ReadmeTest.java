import java.io.IOException;
import java.net.URL;
import java.net.URLClassLoader;
import java.nio.file.Files;
import java.nio.file.Path;
import java.util.ArrayList;
import java.util.List;
import java.util.regex.Matcher;
import java.util.regex.Pattern;
import java.util.stream.Stream;

/** What README.md says is so: its Java answers what it says there, and what it names is there. */
public final class ReadmeTest extends Calls {
    private static final Path TESTS = Path.of("src/test/java");
    private static final Pattern JAVA = Pattern.compile("```java\n(.*?)```", Pattern.DOTALL);
    /** A call, and behind it the answer that is due. */
    private static final Pattern ANSWERED = Pattern.compile("(\\S.*\\));\\s*// (-?\\d+|true|false)(:.*)?");

    public static void main(String[] args) throws Exception {
        String page = Files.readString(Path.of("README.md"));
        context = "README.md: ";
        answers(page);
        names(page);
        finish();
    }

    /** For the page's Java, which is in a class of its own. */
    public static void answer(String call, long got, long want) {
        due(call, got, want);
    }

    public static void answer(String call, boolean got, boolean want) {
        due(call, got, want);
    }

    private static void answers(String page) throws Exception {
        StringBuilder methods = new StringBuilder();
        StringBuilder calls = new StringBuilder();
        Matcher block = JAVA.matcher(page);
        int told = 0;
        while (block.find()) {
            if (block.group(1).startsWith("static ")) {
                methods.append(block.group(1));
                continue;
            }
            for (String line : block.group(1).split("\n")) {
                Matcher answered = ANSWERED.matcher(line.strip());
                if (answered.matches()) {
                    told++;
                    String call = answered.group(1);
                    calls.append("ReadmeTest.answer(\"").append(call.replace("\"", "'")).append("\", ").append(call)
                        .append(", ").append(answered.group(2)).append(");\n");
                } else {
                    due("a line without an answer: " + line, line.isBlank() || line.contains("new StarShells()"), true);
                    calls.append(line).append("\n");
                }
            }
        }
        due("there are answers, which", told > 0, true);
        runClass("public class ReadmePage {\n" + methods + "public static void main(String[] args) {\n" + calls + "}\n}\n");
    }

    private static void runClass(String source) throws Exception {
        Path folder = Files.createTempDirectory("readme");
        Path file = folder.resolve("ReadmePage.java");
        Files.writeString(file, source);
        int code = new ProcessBuilder("javac", "-cp", System.getProperty("java.class.path"), "-d", folder.toString(),
            file.toString()).inheritIO().start().waitFor();
        due("its Java compiles, which", code, 0);
        if (code == 0) {
            try (URLClassLoader loader = new URLClassLoader(new URL[] {folder.toUri().toURL()})) {
                loader.loadClass("ReadmePage").getMethod("main", String[].class).invoke(null, (Object) new String[0]);
            }
        }
        for (Path made : list(folder)) {
            Files.delete(made);
        }
        Files.delete(folder);
    }

    private static List<Path> list(Path folder) throws IOException {
        try (Stream<Path> files = Files.list(folder)) {
            return new ArrayList<>(files.toList());
        }
    }

    private static void names(String page) throws IOException {
        Matcher path = Pattern.compile("`((?:src|\\.ci)/[\\w./]+)`").matcher(page);
        while (path.find()) {
            due(path.group(1) + " is there, which", Files.exists(Path.of(path.group(1))), true);
        }
        for (Path file : list(TESTS)) {
            String name = file.getFileName().toString();
            boolean told = page.contains(name) || name.endsWith("Boundaries.java");
            due(name + " is named, which", told, true);
        }
        for (Class<?> inner : StarShells.class.getDeclaredClasses()) {
            due(inner.getSimpleName() + " is named, which", page.contains("`" + inner.getSimpleName() + "`"), true);
        }
        due(".ci/run can be run, which", Files.isExecutable(Path.of(".ci/run")), true);
    }
}
