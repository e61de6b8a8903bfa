import java.io.IOException;
import java.lang.reflect.Method;
import java.lang.reflect.Modifier;
import java.nio.file.Files;
import java.nio.file.Path;
import java.util.regex.Matcher;
import java.util.regex.Pattern;
import javax.tools.JavaCompiler;
import javax.tools.ToolProvider;

/** Compiles what README.md shows of the class, and looks whether each line answers as it says there. */
public final class ReadmeTest {
    private static final Path README = Path.of("README.md");
    private static final Pattern BLOCK = Pattern.compile("(?s)```java\n(.*?)```");
    private static final Pattern SAYS =
        Pattern.compile("^(?:int (\\w+) = )?(.*);\\s*// (answers|throws) (-?\\w+)(?::.*)?$");
    private static final String HEAD = """
        public final class Shown {
            private static int wrong = 0;

            private static void due(String line, Object got, Object want) {
                if (!want.equals(got)) {
                    wrong++;
                    System.out.println("README.md, " + line + ": answered " + got);
                }
            }

            private static String thrown(Runnable call) {
                try {
                    call.run();
                } catch (RuntimeException e) {
                    return e.getClass().getSimpleName();
                }
                return "nothing";
            }

            public static int wrong() {
        """;

    private static int wrong = 0;
    private static int said = 0;

    private static void tell(String what) {
        wrong++;
        System.out.println("README.md " + what);
    }

    private static String quoted(String text) {
        return '"' + text.trim().replace("\\", "\\\\").replace("\"", "\\\"") + '"';
    }

    /** A line of README.md as it is compiled: with a check of what it says. */
    private static String checked(String line) {
        Matcher m = SAYS.matcher(line);
        if (!m.matches()) {
            if (line.contains("// answers") || line.contains("// throws")) tell("has a line that is not read: " + line);
            return line + "\n";
        }
        said++;
        String where = quoted(line.replaceAll("\\s+//", " //"));
        if (m.group(3).equals("throws")) {
            return "due(" + where + ", thrown(() -> { " + m.group(2) + "; }), " + quoted(m.group(4)) + ");\n";
        }
        if (m.group(1) == null) return "due(" + where + ", " + m.group(2) + ", " + m.group(4) + ");\n";
        return "int " + m.group(1) + " = " + m.group(2) + ";\ndue(" + where + ", " + m.group(1) + ", " + m.group(4) + ");\n";
    }

    private static String program(String readme) {
        StringBuilder code = new StringBuilder(HEAD);
        Matcher block = BLOCK.matcher(readme);
        while (block.find()) {
            code.append("{\n");
            block.group(1).lines().forEach(line -> code.append(checked(line)));
            code.append("}\n");
        }
        return code.append("return wrong;\n}\n}\n").toString();
    }

    private static int runShown(String readme) throws IOException, ReflectiveOperationException {
        Path out = Path.of(System.getProperty("java.class.path"));
        Path source = out.resolve("Shown.java");
        Files.writeString(source, program(readme));
        JavaCompiler javac = ToolProvider.getSystemJavaCompiler();
        if (javac.run(null, null, null, "-cp", out.toString(), "-d", out.toString(), source.toString()) != 0) {
            tell("shows what does not compile");
            return 0;
        }
        return (Integer) Class.forName("Shown").getMethod("wrong").invoke(null);
    }

    public static void main(String[] args) throws IOException, ReflectiveOperationException {
        String readme = Files.readString(README);
        for (Method m : TablePages.class.getDeclaredMethods()) {
            boolean isOpen = Modifier.isPublic(m.getModifiers());
            if (isOpen && !readme.contains("`" + m.getName() + "(")) tell("does not name the call " + m.getName());
        }
        for (String needed : new String[] {"## How to use it", "## How to run its tests", ".ci/run"}) {
            if (!readme.contains(needed)) tell("has no " + needed);
        }
        wrong += runShown(readme);
        if (said < 60) tell("says but " + said + " answers");
        System.out.println(said + " answers of README.md, " + wrong + " faults");
        if (wrong != 0) System.exit(1);
    }
}
