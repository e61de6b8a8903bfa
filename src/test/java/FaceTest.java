import java.io.IOException;
import java.nio.file.Files;
import java.nio.file.Path;
import java.util.ArrayList;
import java.util.List;
import java.util.regex.Matcher;
import java.util.regex.Pattern;

/** Compares the public calls of the source with "The public face" of ../shared/DOC.md, word by word and in their order. */
public final class FaceTest {
    private static final Path SOURCE = Path.of("src/main/java/TablePages.java");
    private static final Path DOCUMENT = Path.of("../shared/DOC.md");
    private static final Pattern CALL = Pattern.compile("(?m)^    (public [^{;=]*?)\\s*[{;]");
    private static final Pattern AHEAD = Pattern.compile("Ahead of the calls (.*) the interface says: (---- .*)\\.");
    private static int wrong = 0;

    private static void due(String what, Object got, Object want) {
        if (!want.equals(got)) {
            wrong++;
            System.out.println(what + ": " + got + ", due is " + want);
        }
    }

    private static List<String> callsIn(String text) {
        List<String> calls = new ArrayList<>();
        Matcher m = CALL.matcher(text);
        while (m.find()) calls.add(m.group(1).replaceAll("\\s+", " "));
        return calls;
    }

    /** What the source says ahead of a call: the last line of four dashes above it. */
    private static String saidAhead(String source, String call) {
        Matcher m = Pattern.compile("public \\w+ " + call + "\\(").matcher(source);
        if (!m.find()) return "no such call";
        int line = source.lastIndexOf("// ----", m.start());
        return line < 0 ? "nothing" : source.substring(line + 3, source.indexOf('\n', line));
    }

    public static void main(String[] args) throws IOException {
        String document = Files.readString(DOCUMENT);
        String source = Files.readString(SOURCE);
        int begin = document.indexOf("```java");
        String face = document.substring(begin, document.indexOf("```", begin + 1));
        due("the class", source.contains("\npublic final class TablePages {"), true);
        due("calls of the document", callsIn(face).size(), 38);
        due("calls", callsIn(source), callsIn(face));
        Matcher sections = AHEAD.matcher(document);
        int count = 0;
        while (sections.find()) {
            for (String call : sections.group(1).replace("`", "").split(", ")) {
                due("ahead of " + call, saidAhead(source, call), sections.group(2));
                count++;
            }
        }
        due("calls with a section", count, 37);
        System.out.println("38 calls of the face, " + wrong + " differences to the document");
        if (wrong != 0) System.exit(1);
    }
}
