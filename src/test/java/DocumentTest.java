import java.io.IOException;
import java.nio.file.DirectoryStream;
import java.nio.file.Files;
import java.nio.file.Path;
import java.util.ArrayList;
import java.util.List;
import java.util.regex.Matcher;
import java.util.regex.Pattern;

/** That each sentence of the document's terms and promises stands above checks of its own in a test of bounds. */
public final class DocumentTest {
    private static final Pattern SENTENCE = Pattern.compile("Due\\.sentence\\(((?:\\s*\"(?:[^\"\\\\]|\\\\.)*\"\\s*\\+?)+)\\)");
    private static final Pattern LITERAL = Pattern.compile("\"((?:[^\"\\\\]|\\\\.)*)\"");

    /** What only names, heads or introduces, and promises nothing. */
    private static final String[] HEADS = {"## Terms", "```text", "```", "========", "Words in capitals are told where they come first."};

    private static List<String> tested() throws IOException {
        List<String> all = new ArrayList<>();
        try (DirectoryStream<Path> files = Files.newDirectoryStream(Path.of("src/test/java"), "*BoundsTest.java")) {
            for (Path file : files) {
                Matcher m = SENTENCE.matcher(Files.readString(file));
                while (m.find()) {
                    StringBuilder words = new StringBuilder();
                    Matcher part = LITERAL.matcher(m.group(1));
                    while (part.find()) words.append(part.group(1));
                    all.add(words.toString());
                }
            }
        }
        // the longest first: a short sentence may stand within a long one
        all.sort((a, b) -> b.length() - a.length());
        return all;
    }

    public static void main(String[] args) throws IOException {
        String document = Files.readString(Path.of("../shared/DOC.md")).replaceAll("\\s+", " ");
        int from = document.indexOf("## Terms"), to = document.indexOf("## Not promised");
        if (from < 0 || to < from) {
            System.out.println("the document has no terms, or no end");
            System.exit(1);
        }
        String left = document.substring(from, to);
        left = left.replaceAll("Ahead of the calls [^:]*: ---- [^.]*\\.", "|").replaceAll("## Promise \\d+: [^`]*`[^`]*`:", "|");
        List<String> tested = tested();
        for (String sentence : tested) left = left.replace(sentence, "|");
        for (String head : HEADS) left = left.replace(head, "|");
        int wrong = 0;
        for (String rest : left.split("\\|")) {
            if (rest.matches("[\\s.;:,]*(\\d )?[\\s.;:,]*")) continue;
            wrong++;
            System.out.println("no test of its own: \"" + rest.trim() + "\"");
        }
        System.out.println("DocumentTest: " + tested.size() + " sentences, " + wrong + " wrong");
        if (wrong != 0 || tested.isEmpty()) System.exit(1);
    }
}
