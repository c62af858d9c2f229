import java.io.ByteArrayOutputStream;
import java.io.IOException;
import java.io.PrintStream;
import java.lang.reflect.Method;
import java.lang.reflect.Modifier;
import java.net.URL;
import java.net.URLClassLoader;
import java.nio.file.DirectoryStream;
import java.nio.file.Files;
import java.nio.file.Path;
import java.util.Comparator;
import java.util.List;
import java.util.stream.Stream;
import javax.tools.ToolProvider;

/** What README.md says of the class and of the tests must be so. */
public final class ReadmeTest {
    private final Check check = new Check();
    private final String readme;

    private ReadmeTest(String readme) {
        this.readme = readme;
    }

    public static void main(String[] arguments) throws IOException, ReflectiveOperationException {
        ReadmeTest test = new ReadmeTest(Files.readString(Path.of("README.md")));
        test.program();
        test.calls();
        test.tests();
        test.check.end("ReadmeTest");
    }

    /** The first block of a kind. */
    private String block(String kind) {
        String start = "```" + kind + "\n";
        int from = readme.indexOf(start);
        int to = readme.indexOf("```", from + start.length());
        check.same("there is a block of " + kind, true, from >= 0 && to >= 0);
        return from >= 0 && to >= 0 ? readme.substring(from + start.length(), to) : "";
    }

    private void program() throws IOException, ReflectiveOperationException {
        Path folder = Files.createTempDirectory("readme");
        try {
            Path source = Files.writeString(folder.resolve("Brew.java"), block("java"));
            int code = ToolProvider.getSystemJavaCompiler().run(null, null, null, "-Xlint:all", "-Werror",
                    "-cp", System.getProperty("java.class.path"), "-d", folder.toString(), source.toString());
            check.same("the program compiles", 0, code);
            if (code == 0) {
                check.same("what the program prints", block("text"), printed(folder));
            }
        } finally {
            remove(folder);
        }
    }

    private static String printed(Path folder) throws IOException, ReflectiveOperationException {
        PrintStream before = System.out;
        ByteArrayOutputStream out = new ByteArrayOutputStream();
        try (URLClassLoader loader = new URLClassLoader(new URL[] {folder.toUri().toURL()})) {
            System.setOut(new PrintStream(out, true));
            Object arguments = new String[0];
            loader.loadClass("Brew").getMethod("main", String[].class).invoke(null, arguments);
        } finally {
            System.setOut(before);
        }
        return out.toString().replace(System.lineSeparator(), "\n");
    }

    private static void remove(Path folder) throws IOException {
        List<Path> all;
        try (Stream<Path> found = Files.walk(folder)) {
            all = found.sorted(Comparator.reverseOrder()).toList();
        }
        for (Path path : all) {
            Files.delete(path);
        }
    }

    private void calls() {
        for (Method method : CauldronTypes.class.getDeclaredMethods()) {
            if (Modifier.isPublic(method.getModifiers())) {
                check.same("is named: " + method.getName(), true, readme.contains("`" + method.getName() + "("));
            }
        }
    }

    private void tests() throws IOException {
        try (DirectoryStream<Path> files = Files.newDirectoryStream(Path.of("src/test/java"), "*Test.java")) {
            for (Path file : files) {
                String name = "src/test/java/" + file.getFileName();
                check.same("is named: " + name, true, readme.contains("`" + name + "`"));
            }
        }
        for (String word : readme.split("[\\s`:;,]+")) {
            if (word.matches("(src/|\\.ci/)[^*]*")) {
                check.same("is there: " + word, true, Files.exists(Path.of(word)));
            }
        }
    }
}
