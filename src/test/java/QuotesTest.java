import java.io.IOException;
import java.nio.file.Files;
import java.nio.file.Path;
import java.util.List;
import java.util.regex.Matcher;
import java.util.regex.Pattern;

/** No sentence of the document, from its Terms to its last promise, is without a test that begins with its words. */
public final class QuotesTest {
    private static final Pattern QUOTE = Pattern.compile("\\.quote\\(((?:\\s*\\+?\\s*\"(?:[^\"\\\\]|\\\\.)*\")+)\\)");
    private static final Pattern WORDS = Pattern.compile("\"((?:[^\"\\\\]|\\\\.)*)\"");
    /** As many words may stand between two quotes: "so that", "To POST:". */
    private static final int FEW = 3;

    public static void main(String[] args) throws IOException {
        Kit kit = new Kit();
        Path path = Path.of("../shared/DOC.md");
        kit.part("without a test");
        if (Files.exists(path)) {
            check(kit, Files.readString(path));
        } else {
            kit.yes("there is no document here", true);
        }
        kit.finish();
    }

    private static void check(Kit kit, String document) throws IOException {
        String told = told(document);
        boolean[] quoted = new boolean[told.length()];
        try (var files = Files.list(Path.of("src/test/java"))) {
            for (Path file : files.toList()) {
                mark(told, quoted, Files.readString(file));
            }
        }
        StringBuilder left = new StringBuilder();
        for (int i = 0; i < quoted.length; i++) {
            left.append(quoted[i] ? '\n' : told.charAt(i));
        }
        for (String run : left.toString().split("\n+")) {
            long words = List.of(run.split("[^A-Za-z0-9'<=>]+")).stream().filter(w -> !w.isEmpty()).count();
            kit.yes("<" + run.strip() + ">", words <= FEW);
        }
    }

    /** What is to be tested, without headings, the face and the marks of code; blanks as Kit.quote has them. */
    private static String told(String document) {
        StringBuilder lines = new StringBuilder();
        for (String line : document.substring(document.indexOf("## Terms"), document.indexOf("## Not promised")).split("\n")) {
            if (!line.startsWith("#") && !line.startsWith("```")) {
                lines.append(line.replaceFirst("^`(int|boolean|BagsRiver)[^`]*`: ", "")).append(' ');
            }
        }
        return lines.toString().replace("`", "").replaceAll("==== [0-9]\\.", " ").replaceAll("\\s+", " ");
    }

    private static void mark(String told, boolean[] quoted, String test) {
        Matcher quote = QUOTE.matcher(test);
        while (quote.find()) {
            StringBuilder words = new StringBuilder();
            Matcher part = WORDS.matcher(quote.group(1));
            while (part.find()) {
                words.append(part.group(1).replace("\\\"", "\""));
            }
            for (int at = told.indexOf(words.toString()); at >= 0; at = told.indexOf(words.toString(), at + 1)) {
                java.util.Arrays.fill(quoted, at, at + words.length(), true);
            }
        }
    }
}
