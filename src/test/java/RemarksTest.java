import java.io.IOException;
import java.nio.file.DirectoryStream;
import java.nio.file.Files;
import java.nio.file.Path;
import java.util.ArrayList;
import java.util.List;
import java.util.Map;
import java.util.TreeMap;
import java.util.regex.Matcher;
import java.util.regex.Pattern;

/**
 * The remarks ahead of the tests at the bounds are what the document says, and each sentence of a promise and of its
 * terms stands, whole or in part, ahead of a test: of a promise one that names this promise.
 */
public final class RemarksTest {
    private static final Pattern REMARK = Pattern.compile("\\s*// \"(.*)\"");
    private static final Pattern TEST = Pattern.compile("\"Promise (\\d+|\" \\+ promise)");
    private static final Pattern PROMISE = Pattern.compile("(?s)## Promise (\\d+): [^\\n]*\\n(.*?)(?=\\n## )");
    private static final Pattern SENTENCES = Pattern.compile("(?<=[.;:])\\s+");
    private static final int SHORTEST = 12;

    private static final Map<Integer, List<String>> remarks = new TreeMap<>();
    private static int wrong;
    private static int sentences;

    private RemarksTest() {
    }

    public static void main(String[] args) throws IOException {
        Path root = Path.of(args[0]).toAbsolutePath().getParent().getParent().getParent().getParent();
        Path documentFile = root.resolve("../shared/DOC.md");
        if (!Files.exists(documentFile)) {
            System.out.println("the document is not there, so that the remarks were not looked at");
            return;
        }
        String document = Files.readString(documentFile);
        try (DirectoryStream<Path> files = Files.newDirectoryStream(root.resolve("src/test/java"), "*BoundsTest.java")) {
            for (Path file : files) {
                remarksOf(file, plain(document));
            }
        }
        promises(document);
        terms(document.substring(document.indexOf("## Terms"), document.indexOf("The constants:")));
        System.out.println(wrong == 0 ? sentences + " sentences have tests" : wrong + " remarks or sentences are wrong");
        if (wrong != 0) {
            System.exit(1);
        }
    }

    private static void due(boolean isRight, String otherwise) {
        if (!isRight) {
            wrong++;
            System.out.println(otherwise);
        }
    }

    private static String plain(String text) {
        return text.replaceAll("\\s+", " ").strip();
    }

    private static void remarksOf(Path file, String document) throws IOException {
        List<String> ahead = new ArrayList<>();
        for (String line : Files.readAllLines(file)) {
            Matcher remark = REMARK.matcher(line);
            Matcher test = TEST.matcher(line);
            if (remark.matches()) {
                ahead.add(plain(remark.group(1)));
                due(document.contains(plain(remark.group(1))), file.getFileName() + ": the document does not say: " + remark.group(1));
            } else if (test.find()) {
                due(!ahead.isEmpty(), file.getFileName() + ": no remark ahead of:" + line);
                boolean isOfBoth = test.group(1).endsWith("promise");
                for (int promise : isOfBoth ? new int[] {27, 28} : new int[] {Integer.parseInt(test.group(1))}) {
                    remarks.computeIfAbsent(promise, k -> new ArrayList<>()).addAll(ahead);
                }
                ahead.clear();
            }
        }
    }

    private static boolean isTold(String sentence, List<String> told) {
        sentences++;
        return told.stream().anyMatch(remark -> remark.contains(sentence) || sentence.contains(remark));
    }

    private static void promises(String document) {
        Matcher promise = PROMISE.matcher(document);
        while (promise.find()) {
            List<String> told = remarks.getOrDefault(Integer.valueOf(promise.group(1)), List.of());
            for (String line : promise.group(2).split("\n")) {
                if (!line.isBlank()) {
                    String sentence = plain(line.startsWith("- ") ? line.substring(2) : line);
                    due(isTold(sentence, told), "no test of promise " + promise.group(1) + " tells: " + sentence);
                }
            }
        }
    }

    private static void terms(String terms) {
        List<String> told = new ArrayList<>();
        remarks.values().forEach(told::addAll);
        for (String piece : SENTENCES.split(terms.replaceAll("(?m)^(#|==).*$", ""))) {
            String sentence = plain(piece).replaceAll("^- |[.;:]$", "");
            if (sentence.length() >= SHORTEST) {
                due(isTold(sentence, told), "no test tells: " + sentence);
            }
        }
    }
}
