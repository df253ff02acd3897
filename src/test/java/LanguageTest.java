import java.io.IOException;
import java.lang.reflect.Constructor;
import java.lang.reflect.Field;
import java.lang.reflect.Method;
import java.lang.reflect.Modifier;
import java.nio.file.Files;
import java.nio.file.Path;
import java.util.ArrayList;
import java.util.List;
import java.util.TreeSet;
import java.util.regex.Matcher;
import java.util.regex.Pattern;
import java.util.stream.Stream;

/** Those rules of ../shared/LANGUAGE.md that can be seen from the source and the compiled classes. */
public final class LanguageTest {
    private static final Path PROGRAM = Path.of("src/main/java/ShapeSessions.java");
    private static final String[] FORBIDDEN = {"throw", "throws", "try", "catch", "finally", "synchronized", "assert",
        "import", "package", "native", "volatile", "transient", "protected", "enum", "->", "::", "Exact", "System.in",
        "System.out", "HashMap", "Thread", "Object", "hashCode", "toString", "equals"};
    private static final String[] FACE = {
        "int alter(int,int)", "int start(int,int)", "int end(int)", "int tick(int)", "int set(int,int)",
        "int tableOf(int,int)", "int sessionOf(int,int)", "int entry(int,int,int)", "int statement(int,int)",
        "int notice(int)", "int count(int)", "int would(int,int,int)", "int inTheWay(int)", "int bestRoom(int)",
        "int keep()", "int restore()", "int undo()", "int type(int)", "int clearText()", "int fault(int)", "int play()"};

    private static final String[] ORDER = {
        "// ---- tables, statements, time", "alter", "start", "end", "tick", "set",
        "// ---- what there is", "tableOf", "sessionOf", "entry", "statement", "notice", "count",
        "// ---- what would be", "would", "inTheWay", "bestRoom",
        "// ---- snapshot, undo", "keep", "restore", "undo",
        "// ---- texts", "type", "clearText", "fault", "play"};

    private static final Checks CHECKS = new Checks("LanguageTest");

    public static void main(String[] args) throws IOException {
        String bare = Files.readString(PROGRAM).replaceAll("(?s)/\\*.*?\\*/", "").replaceAll("//[^\n]*", "");
        onlyFile();
        words(bare);
        lengths(bare);
        order(Files.readString(PROGRAM));
        face();
        faceModifiers();
        inside();
        CHECKS.close();
    }

    private static void onlyFile() throws IOException {
        CHECKS.part("files");
        try (Stream<Path> all = Files.walk(Path.of("src/main"))) {
            List<Path> files = all.filter(Files::isRegularFile).toList();
            CHECKS.holds("one file: " + files, files.equals(List.of(PROGRAM)));
        }
    }

    private static void words(String source) {
        CHECKS.part("words");
        for (String word : FORBIDDEN) {
            boolean letters = Character.isLetter(word.charAt(0));
            Pattern pattern = Pattern.compile(letters ? "\\b" + Pattern.quote(word) + "\\b" : Pattern.quote(word));
            CHECKS.holds("no " + word, !pattern.matcher(source).find());
        }
        CHECKS.holds("no text joined by +", !source.contains("\""));
        CHECKS.holds("signs 1 to 127 alone", source.chars().allMatch(c -> c >= 1 && c <= 127));
    }

    private static void lengths(String source) {
        CHECKS.part("lengths");
        String start = null;
        int startLine = 0;
        String[] lines = source.split("\n");
        Pattern head = Pattern.compile("^( {4}| {8})(?!.*\\bclass\\b)[a-zA-Z].*\\) \\{$");
        for (int i = 0; i < lines.length; i++) {
            Matcher m = head.matcher(lines[i]);
            if (start == null && m.find() && !lines[i].matches("^ {8}(if|for|while|switch|\\}).*")) {
                start = m.group(1);
                startLine = i;
                CHECKS.holds("at most seven parameters in line " + (i + 1), lines[i].chars().filter(c -> c == ',').count() < 7);
            } else if (start != null && lines[i].equals(start + "}")) {
                CHECKS.holds("a short method from line " + (startLine + 1), i - startLine < 60);
                start = null;
            }
        }
        CHECKS.holds("every method was seen to end", start == null);
    }

    /** The calls stand in the document's order, behind the headings that it names. */
    private static void order(String source) {
        CHECKS.part("order");
        int at = 0;
        for (String next : ORDER) {
            int found = source.indexOf(next.startsWith("//") ? "\n    " + next + "\n" : "\n    public int " + next + "(", at);
            CHECKS.holds(next + " in its place", found >= 0);
            at = Math.max(at, found);
        }
    }

    private static void face() {
        CHECKS.part("face");
        CHECKS.holds("public and final", Modifier.isPublic(ShapeSessions.class.getModifiers())
            && Modifier.isFinal(ShapeSessions.class.getModifiers()));
        TreeSet<String> methods = new TreeSet<>();
        for (Method m : ShapeSessions.class.getDeclaredMethods()) {
            if (!Modifier.isPrivate(m.getModifiers())) {
                methods.add(signature(m));
            }
        }
        CHECKS.holds("the methods of the document and no other: " + methods, methods.equals(new TreeSet<>(List.of(FACE))));
        Constructor<?>[] constructors = ShapeSessions.class.getDeclaredConstructors();
        CHECKS.holds("one public constructor", constructors.length == 1
            && Modifier.isPublic(constructors[0].getModifiers()) && constructors[0].getParameterCount() == 0);
        TreeSet<String> fields = new TreeSet<>();
        for (Field f : ShapeSessions.class.getDeclaredFields()) {
            if (!Modifier.isPrivate(f.getModifiers())) {
                fields.add(f.getName());
            }
        }
        CHECKS.holds("the constants and no other field: " + fields, fields.equals(
            new TreeSet<>(List.of("INVALID_ARGUMENT", "NOT_POSSIBLE", "LIMIT_REACHED", "NOT_FOUND"))));
    }

    private static void faceModifiers() {
        CHECKS.part("modifiers of the face");
        for (Method m : ShapeSessions.class.getDeclaredMethods()) {
            if (Modifier.isPublic(m.getModifiers())) {
                CHECKS.holds(m + " is public alone", m.getModifiers() == Modifier.PUBLIC);
                CHECKS.holds(m + " tells of no exception", m.getExceptionTypes().length == 0);
            }
        }
        for (Constructor<?> c : ShapeSessions.class.getDeclaredConstructors()) {
            CHECKS.holds("the constructor tells of no exception", c.getExceptionTypes().length == 0);
        }
        for (Field f : ShapeSessions.class.getDeclaredFields()) {
            if (Modifier.isPublic(f.getModifiers())) {
                CHECKS.holds(f + " is a constant", f.getType() == int.class && Modifier.isStatic(f.getModifiers())
                    && Modifier.isFinal(f.getModifiers()));
            }
        }
        CHECKS.holds("of no other class", ShapeSessions.class.getSuperclass() == Object.class
            && ShapeSessions.class.getInterfaces().length == 0);
        CHECKS.holds("without a package", ShapeSessions.class.getPackageName().isEmpty());
    }

    private static String signature(Method m) {
        List<String> parameters = new ArrayList<>();
        for (Class<?> p : m.getParameterTypes()) {
            parameters.add(p.getName());
        }
        return m.getReturnType().getName() + " " + m.getName() + "(" + String.join(",", parameters) + ")";
    }

    private static void inside() {
        CHECKS.part("inside");
        TreeSet<String> names = new TreeSet<>();
        for (String signature : FACE) {
            names.add(signature.substring(4, signature.indexOf('(')));
        }
        List<Class<?>> all = new ArrayList<>(List.of(ShapeSessions.class.getDeclaredClasses()));
        CHECKS.holds("at most twelve classes", all.size() < 12);
        for (Class<?> inner : all) {
            CHECKS.holds(inner + " is static", Modifier.isStatic(inner.getModifiers()));
            CHECKS.holds(inner + " is not public", !Modifier.isPublic(inner.getModifiers()));
            CHECKS.holds(inner + " has no class inside", inner.getDeclaredClasses().length == 0);
        }
        all.add(ShapeSessions.class);
        for (Class<?> each : all) {
            int fields = 0;
            for (Field f : each.getDeclaredFields()) {
                boolean isStatic = Modifier.isStatic(f.getModifiers());
                CHECKS.holds(f + " is no changing static field", !isStatic || Modifier.isFinal(f.getModifiers()));
                fields += isStatic ? 0 : 1;
            }
            CHECKS.holds(each + " has at most twenty fields", fields <= 20);
            for (Method m : each.getDeclaredMethods()) {
                boolean ofTheFace = each == ShapeSessions.class && Modifier.isPublic(m.getModifiers());
                CHECKS.holds(m + " bears no name of the face", ofTheFace || !names.contains(m.getName()));
            }
        }
    }
}
