import java.nio.file.Files;
import java.nio.file.Path;

/** The rules of LANGUAGE.md that a look at the source can tell. */
public final class LanguageTest {
    private static final String[] FORBIDDEN = {
        "import ", "->", "::", "synchronized", "assert ", "finally", "throw new NullPointer", "catch", " try {",
        "static {", "Boolean.", "String.", "System.", "Exact(", "protected ", "lambda", "extends Exception", "\" +", "+ \"",
    };

    private LanguageTest() {
    }

    public static void main(String[] args) throws Exception {
        String source = Files.readString(Path.of(args[0]));
        int wrong = 0;
        for (String word : FORBIDDEN) {
            if (source.contains(word)) {
                wrong++;
                System.out.println("the source has: " + word);
            }
        }
        for (int i = 0; i < source.length(); i++) {
            if (source.charAt(i) > 126) {
                wrong++;
                System.out.println("a sign that is not ASCII at " + i);
            }
        }
        System.out.println(wrong == 0 ? "the source keeps to the rules" : wrong + " rules are broken");
        if (wrong != 0) {
            System.exit(1);
        }
    }
}
