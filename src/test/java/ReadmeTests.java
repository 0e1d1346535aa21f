import java.io.IOException;
import java.io.UncheckedIOException;
import java.lang.reflect.Field;
import java.lang.reflect.Method;
import java.lang.reflect.Modifier;
import java.net.URL;
import java.net.URLClassLoader;
import java.nio.file.Files;
import java.nio.file.Path;
import java.util.Comparator;
import java.util.List;
import java.util.regex.Matcher;
import java.util.regex.Pattern;
import java.util.stream.Stream;
import javax.tools.ToolProvider;

/** README.md: its example answers what its remarks say, and it leaves out no call, no constant and no test. */
public final class ReadmeTests {
    private static final Path README = Path.of("README.md");
    private static final Path TESTS = Path.of("src/test/java");
    private static final Pattern EXAMPLE = Pattern.compile("```java\n(.*?)```", Pattern.DOTALL);
    // A line with a remark: the variable it makes, if it makes one; the call; the answer, up to a colon.
    private static final Pattern REMARKED = Pattern.compile("(?:int (\\w+) = )?(x\\..+);\\s*// ([^:]+)(?::.*)?");

    private static int looked = 0;
    private static int wrong = 0;

    private static void due(boolean holds, String what) {
        looked++;
        if (!holds) {
            wrong++;
            System.out.println("README.md: " + what);
        }
    }

    /** The example as a class whose method tells in a text which answers are not the ones remarked. */
    private static String exampleAsClass(String example) {
        StringBuilder text = new StringBuilder("public final class ReadmeExample {\n"
                + "static String wrong = \"\";\n"
                + "static int due(String call, int got, int want) {\n"
                + "if (got != want) wrong += call + \" answers \" + got + \"; \";\n"
                + "return got;\n}\n"
                + "public static String wrongAnswers() {\n");
        for (String line : example.split("\n")) {
            Matcher remarked = REMARKED.matcher(line);
            if (remarked.matches()) {
                String variable = remarked.group(1);
                String call = remarked.group(2);
                looked++;
                text.append(variable == null ? "" : "int " + variable + " = ")
                        .append("due(\"" + call + "\", " + call + ", " + remarked.group(3) + ");\n");
            } else {
                due(!line.contains("//"), "a remark that isn't understood: " + line);
                text.append(line).append('\n');
            }
        }
        return text.append("return wrong;\n}\n}\n").toString();
    }

    private static void exampleAnswersAsRemarked(String readme, Path folder) throws IOException, ReflectiveOperationException {
        Matcher found = EXAMPLE.matcher(readme);
        boolean there = found.find();
        due(there, "there is no example");
        if (!there) {
            return;
        }
        Path source = folder.resolve("ReadmeExample.java");
        Files.writeString(source, exampleAsClass(found.group(1)));
        int code = ToolProvider.getSystemJavaCompiler().run(null, null, null,
                "-cp", System.getProperty("java.class.path"), "-d", folder.toString(), source.toString());
        due(code == 0, "the example does not compile");
        if (code == 0) {
            try (URLClassLoader loader = new URLClassLoader(new URL[] {folder.toUri().toURL()})) {
                Object answers = loader.loadClass("ReadmeExample").getMethod("wrongAnswers").invoke(null);
                due(answers.equals(""), "not as remarked in the example: " + answers);
            }
        }
    }

    private static void everythingIsNamed(String readme) throws IOException {
        for (Method method : TestTreeRunner.class.getDeclaredMethods()) {
            if (Modifier.isPublic(method.getModifiers())) {
                due(readme.contains("| `" + method.getName() + "("), "no row for " + method.getName());
                due(readme.contains("x." + method.getName() + "("), "not in the example: " + method.getName());
            }
        }
        for (Field field : TestTreeRunner.class.getFields()) {
            due(readme.contains("`" + field.getName() + "`"), "no word of " + field.getName());
        }
        try (Stream<Path> tests = Files.list(TESTS)) {
            for (Path test : (Iterable<Path>) tests::iterator) {
                due(readme.contains("`src/test/java/" + test.getFileName() + "`"), "no word of " + test);
            }
        }
        for (String words : List.of("    .ci/run\n", "`../shared/tests/*.java`", "`../shared/DOC.md`", "512 calls")) {
            due(readme.contains(words), "no word of " + words);
        }
    }

    private static void remove(Path folder) throws IOException {
        try (Stream<Path> all = Files.walk(folder)) {
            all.sorted(Comparator.reverseOrder()).forEach(path -> {
                try {
                    Files.delete(path);
                } catch (IOException problem) {
                    throw new UncheckedIOException(problem);
                }
            });
        }
    }

    public static void main(String[] args) throws IOException, ReflectiveOperationException {
        String readme = Files.readString(README);
        Path folder = Files.createTempDirectory("readme");
        try {
            exampleAnswersAsRemarked(readme, folder);
        } finally {
            remove(folder);
        }
        everythingIsNamed(readme);
        System.out.println(looked + " things looked at in README.md, " + wrong + " not as due");
        if (wrong != 0) {
            System.exit(1);
        }
    }
}
