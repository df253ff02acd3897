import java.io.ByteArrayOutputStream;
import java.io.IOException;
import java.io.PrintStream;
import java.lang.reflect.Field;
import java.lang.reflect.Method;
import java.lang.reflect.Modifier;
import java.nio.charset.StandardCharsets;
import java.nio.file.Files;
import java.nio.file.Path;
import java.util.ArrayList;
import java.util.List;
import java.util.regex.Matcher;
import java.util.regex.Pattern;
import java.util.stream.Stream;
import javax.tools.JavaCompiler;
import javax.tools.ToolProvider;

/** README.md must hold: its example, its tables of calls and errors, and the files that it names. */
public final class ReadmeTest {
    private static final Path README = Path.of("README.md");
    private static final Path TESTS = Path.of("src/test/java");

    private static final Checks CHECKS = new Checks("ReadmeTest");

    public static void main(String[] args) throws Exception {
        String page = Files.readString(README);
        example(page);
        calls(page);
        errors(page);
        files(page);
        CHECKS.close();
    }

    /** The example is compiled and run as it stands, and must print what it says it prints. */
    private static void example(String page) throws Exception {
        CHECKS.part("the example");
        Matcher block = Pattern.compile("(?s)```java\n(.*?)```").matcher(page);
        CHECKS.holds("there is one", block.find());
        String source = block.group(1);
        List<String> said = new ArrayList<>();
        Matcher answers = Pattern.compile("println\\(.*?\\); +// (-?\\d+): ").matcher(source);
        while (answers.find()) {
            said.add(answers.group(1));
        }
        CHECKS.holds("each row tells its answer", said.size() == source.split("println").length - 1);
        List<String> printed = outputOf(source);
        CHECKS.holds("it prints " + said + ", but printed " + printed, printed.equals(said));
    }

    private static List<String> outputOf(String source) throws Exception {
        Path folder = Files.createTempDirectory("example");
        Path file = folder.resolve("Example.java");
        Path compiled = folder.resolve("Example.class");
        Files.writeString(file, source);
        JavaCompiler compiler = ToolProvider.getSystemJavaCompiler();
        int answer = compiler.run(null, null, null, "-cp", System.getProperty("java.class.path"), "-d", folder.toString(), file.toString());
        CHECKS.holds("it compiles", answer == 0);
        String printed = answer == 0 ? run(compiled) : "";
        for (Path path : List.of(file, compiled, folder)) {
            Files.deleteIfExists(path);
        }
        return printed.lines().toList();
    }

    private static String run(Path compiled) throws Exception {
        ByteArrayOutputStream printed = new ByteArrayOutputStream();
        PrintStream before = System.out;
        System.setOut(new PrintStream(printed, true, StandardCharsets.UTF_8));
        try {
            Method main = new OneClass(Files.readAllBytes(compiled)).loadClass("Example").getMethod("main", String[].class);
            main.invoke(null, (Object) new String[0]);
        } finally {
            System.setOut(before);
        }
        return printed.toString(StandardCharsets.UTF_8);
    }

    private static final class OneClass extends ClassLoader {
        private final byte[] bytes;

        OneClass(byte[] bytes) {
            super(ReadmeTest.class.getClassLoader());
            this.bytes = bytes;
        }

        @Override
        protected Class<?> findClass(String name) {
            return defineClass(name, bytes, 0, bytes.length);
        }
    }

    /** Each call of the face has its row, with as many arguments as it takes, and there is no other row. */
    private static void calls(String page) {
        CHECKS.part("the calls");
        List<String> rows = new ArrayList<>();
        Matcher row = Pattern.compile("(?m)^\\| `(\\w+)\\((.*)\\)` \\| .+ \\|$").matcher(page);
        while (row.find()) {
            rows.add(row.group(1) + " " + (row.group(2).isEmpty() ? 0 : row.group(2).split(", ").length));
        }
        List<String> face = new ArrayList<>();
        for (Method m : ShapeSessions.class.getDeclaredMethods()) {
            if (Modifier.isPublic(m.getModifiers())) {
                face.add(m.getName() + " " + m.getParameterCount());
            }
        }
        CHECKS.due("rows", face.size(), rows.size());
        CHECKS.holds("a row for each of " + face, rows.containsAll(face) && face.containsAll(rows));
    }

    private static void errors(String page) throws IllegalAccessException {
        CHECKS.part("the errors");
        for (Field f : ShapeSessions.class.getDeclaredFields()) {
            if (Modifier.isPublic(f.getModifiers())) {
                String row = "| `" + f.getName() + "` = " + f.getInt(null) + " |";
                CHECKS.holds("a row " + row, page.contains(row));
            }
        }
    }

    /** The files that it names are there, and it names each file of the tests. */
    private static void files(String page) throws IOException {
        CHECKS.part("the files");
        Matcher named = Pattern.compile("`((?:src|\\.ci|\\.\\./shared)/[\\w./-]*\\w)`").matcher(page);
        List<String> all = new ArrayList<>();
        while (named.find()) {
            all.add(named.group(1));
            CHECKS.holds(named.group(1) + " is there", Files.exists(Path.of(named.group(1))));
        }
        try (Stream<Path> tests = Files.list(TESTS)) {
            for (Path test : tests.toList()) {
                CHECKS.holds(test + " is named", all.contains(TESTS + "/" + test.getFileName()));
            }
        }
    }
}
