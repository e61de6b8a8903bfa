import java.io.IOException;
import java.nio.file.Files;
import java.nio.file.Path;
import java.util.ArrayList;
import java.util.List;
import java.util.Set;
import java.util.TreeSet;
import java.util.regex.Matcher;
import java.util.regex.Pattern;

/** Reads src/main/java/TablePages.java as text and looks for what ../shared/LANGUAGE.md rules out. */
public final class LanguageTest {
    private static final Path SOURCE = Path.of("src/main/java/TablePages.java");
    private static final String METHOD =
        "(?m)^( +)((?:(?:public|private|protected|static|final|abstract) )*)([\\w<>\\[\\]]+) (\\w+)\\(([^)]*)\\)[^;{]*\\{";
    private static int wrong = 0;

    private static void tell(String rule, String what) {
        wrong++;
        System.out.println(rule + ": " + what);
    }

    private static void forbid(String code, String rule, String... patterns) {
        for (String pattern : patterns) {
            Matcher m = Pattern.compile(pattern).matcher(code);
            if (m.find()) tell(rule, m.group());
        }
    }

    private static void allowOnly(String code, String rule, String pattern, String allowed) {
        Set<String> good = Set.of(allowed.split(" "));
        Matcher m = Pattern.compile(pattern).matcher(code);
        while (m.find()) if (!good.contains(m.group(1))) tell(rule, m.group());
    }

    private static String withoutCommentsAndTexts(String text) {
        return text.replaceAll("(?s)/\\*.*?\\*/", "").replaceAll("//[^\n]*", "").replaceAll("\"[^\"\n]*\"", "\"\"");
    }

    private static void checkMethods(String code) {
        Set<String> open = new TreeSet<>();
        List<String> others = new ArrayList<>();
        Matcher m = Pattern.compile(METHOD).matcher(code);
        while (m.find()) {
            if (m.group(3).equals("new") || m.group(3).equals("else") || m.group(3).equals("return")) continue;
            String name = m.group(4);
            if (m.group(2).contains("public")) open.add(name);
            else others.add(name);
            if (!m.group(5).isBlank() && m.group(5).split(",").length > 7) tell("rule 11, parameters", name);
            int end = code.indexOf("\n" + m.group(1) + "}", m.end());
            long lines = code.substring(m.start(), Math.max(m.start(), end)).lines().count();
            if (end < 0 || lines > 60) tell("rule 11, length", name + " has " + lines + " lines");
        }
        if (open.size() != 37) tell("rule 1", open.size() + " public methods");
        for (String name : others) if (open.contains(name)) tell("rule 1, a private name", name);
        if (others.size() < 50) tell("this test", "it found but " + others.size() + " methods of its own");
    }

    public static void main(String[] args) throws IOException {
        String text = Files.readString(SOURCE);
        String code = withoutCommentsAndTexts(text);
        if (!text.chars().allMatch(c -> c == '\n' || c >= 32 && c < 127)) tell("rule 4", "a sign out of range");
        allowOnly(code, "rule 4", "import ([\\w.]+);",
            "java.util.ArrayList java.util.Arrays java.util.List java.util.Iterator java.util.NoSuchElementException");
        allowOnly(code, "rule 4", "Arrays\\.(\\w+)", "fill copyOf copyOfRange");
        allowOnly(code, "rule 4", "Math\\.(\\w+)", "max min abs floorDiv floorMod");
        allowOnly(code, "rule 4", "System\\.(\\w+)", "arraycopy");
        allowOnly(code, "rule 6", "throw new (\\w+)\\(",
            "IllegalStateException IllegalArgumentException IndexOutOfBoundsException");
        forbid(code, "rule 2", "->", "::");
        forbid(code, "rule 3", "\\bObject\\b", "\\[\\]\\[\\]\\[\\]", "\\bLong\\b", "\\bMap\\b", "\\bSet\\b");
        forbid(code, "rule 6", "\\bcatch\\b", "\\bfinally\\b", "\\bsynchronized\\b", "\\bassert\\b", "\\bequals\\(",
            "\\bhashCode\\b", "\\btoString\\b", "throw (?!new)");
        forbid(code, "rule 5", "(?m)^ +(private )?static (?!final)[^(=]*(=|;)", "static \\{");
        forbid(code, "rule 9", "while \\(true\\)", "for \\(;;\\)");
        forbid(code, "rule 10", "\"\" \\+", "\\+ \"\"");
        forbid(code, "rule 13", "\\bRandom\\b", "nanoTime", "\\bThread\\b", "\\bFile\\b");
        Matcher classes = Pattern.compile("\\b(class|enum|record|interface) \\w+").matcher(code);
        if (classes.results().count() > 12) tell("rule 11", "more than 12 classes");
        checkMethods(code);
        System.out.println(wrong + " breaches of the language's rules found");
        if (wrong != 0) System.exit(1);
    }
}
