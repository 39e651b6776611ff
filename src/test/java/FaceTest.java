import java.lang.reflect.Field;
import java.lang.reflect.Method;
import java.lang.reflect.Modifier;
import java.nio.file.Files;
import java.nio.file.Path;
import java.util.ArrayList;
import java.util.List;
import java.util.regex.Matcher;
import java.util.regex.Pattern;

/** The public face is that of the document, word by word, in its order, with its remarks ahead of the calls. */
public final class FaceTest {
    private static final String INDEX = "IndexOutOfBoundsException";
    private static final String ARGUMENT = "IllegalArgumentException";
    private static final String STATE = "IllegalStateException";
    private static final String[] FACE = {
        "// ---- signs and texts",
        "int sign(int sign) throws " + INDEX + ", " + STATE,
        "int compose(int sign, int base, int mark) throws " + INDEX + ", " + STATE,
        "int text() throws " + STATE,
        "int wipe()",
        "// ---- tailorings",
        "int anchor() throws " + STATE,
        "int rule(int tailoring, int how) throws " + INDEX + ", " + ARGUMENT + ", " + STATE,
        "int adopt(int to, int from) throws " + INDEX + ", " + ARGUMENT + ", " + STATE,
        "boolean option(int tailoring, int what, boolean isOn) throws " + INDEX,
        "// ---- entries",
        "int heading(int letter, boolean isOn) throws " + INDEX,
        "int entry(int parent, int text, int indexes) throws " + INDEX + ", " + ARGUMENT + ", " + STATE,
        "int form(int entry, int kind, int n) throws " + INDEX + ", " + ARGUMENT,
        "boolean locate(int entry, int page, int sort) throws " + INDEX + ", " + ARGUMENT + ", " + STATE,
        "boolean see(int entry, int target, boolean isAlso) throws " + INDEX + ", " + ARGUMENT + ", " + STATE,
        "// ---- words, editions, columns",
        "int word(int text) throws " + INDEX + ", " + STATE,
        "int reading(int text, int lemma) throws " + INDEX + ", " + STATE,
        "int read(int word, int lemma) throws " + INDEX + ", " + ARGUMENT,
        "int pin(int page, int next) throws " + ARGUMENT + ", " + STATE,
        "int edition() throws " + STATE,
        "int columns(int width, int height) throws " + ARGUMENT,
        "// ---- what is asked: texts and orders",
        "int texts()",
        "int signAt(int text, boolean isApart, int index) throws " + INDEX,
        "int rules(int tailoring) throws " + INDEX,
        "int itemAt(int tailoring, int index) throws " + INDEX,
        "int element(int tailoring, int text, int index) throws " + INDEX,
        "int keyAt(int tailoring, int strength, int text, int index) throws " + INDEX + ", " + ARGUMENT,
        "int compare(int tailoring, int strength, int one, int other) throws " + INDEX + ", " + ARGUMENT,
        "int compareByLevels(int tailoring, int strength, int one, int other) throws " + INDEX + ", " + ARGUMENT,
        "int find(int tailoring, int strength, int text, int what, int from) throws " + INDEX + ", " + ARGUMENT,
        "// ---- what is asked: indexes",
        "int entries()",
        "int entryAt(int index, int place) throws " + INDEX,
        "int beneath(int index, int entry) throws " + INDEX,
        "int locatorAt(int entry, int group) throws " + INDEX,
        "int leads(int entry) throws " + INDEX,
        "int dead()",
        "int moved(int index) throws " + INDEX,
        "int columnOf(int index, int entry) throws " + INDEX,
        "int lineAt(int lemma, boolean isLeft, int line) throws " + INDEX,
    };
    private static final Pattern IN_SOURCE = Pattern.compile("public (int|boolean) \\w+\\([^{;]*|// ---- [^\n]*");
    private static final Pattern IN_DOCUMENT = Pattern.compile("    public ((int|boolean) \\w+\\(.*);");
    private static final Pattern REMARKS = Pattern.compile("Ahead of the calls (.*) the interface says: (---- .*)\\.");

    private static int wrong;

    private FaceTest() {
    }

    public static void main(String[] args) throws Exception {
        Path file = Path.of(args[0]).toAbsolutePath();
        due(List.of(FACE), ofSource(Files.readString(file)), "the class");
        Path document = file.getParent().getParent().getParent().getParent().resolve("../shared/DOC.md");
        if (Files.exists(document)) {
            due(ofDocument(Files.readString(document)), List.of(FACE), "this test");
        }
        constant();
        members();
        System.out.println(wrong == 0 ? "the face is as due" : wrong + " parts of the face are wrong");
        if (wrong != 0) {
            System.exit(1);
        }
    }

    private static void due(List<String> want, List<String> got, String whose) {
        for (int i = 0; i < Math.max(want.size(), got.size()); i++) {
            String wanted = i < want.size() ? want.get(i) : "nothing";
            String told = i < got.size() ? got.get(i) : "nothing";
            if (!wanted.equals(told)) {
                wrong++;
                System.out.println(whose + " says " + told + ", due is " + wanted);
            }
        }
    }

    private static String plain(String text) {
        return text.replaceAll("\\s+", " ").strip();
    }

    /** The remarks behind the last public call are about private methods. */
    private static List<String> ofSource(String source) {
        List<String> face = new ArrayList<>();
        int end = 0;
        Matcher part = IN_SOURCE.matcher(source);
        while (part.find()) {
            boolean isCall = part.group().startsWith("public");
            face.add(plain(isCall ? part.group().substring("public ".length()) : part.group()));
            end = isCall ? face.size() : end;
        }
        return face.subList(0, end);
    }

    private static List<String> ofDocument(String document) {
        List<String> face = new ArrayList<>();
        Matcher call = IN_DOCUMENT.matcher(document);
        while (call.find()) {
            face.add(call.group(1));
        }
        Matcher remark = REMARKS.matcher(document);
        while (remark.find()) {
            String[] calls = remark.group(1).replace("`", "").split(", ");
            int first = placeOf(face, calls[0]);
            face.add(first, "// " + remark.group(2));
            for (int i = 0; i < calls.length; i++) {
                if (placeOf(face, calls[i]) != first + 1 + i) {
                    wrong++;
                    System.out.println("the document's calls stand in another order: " + calls[i]);
                }
            }
        }
        return face;
    }

    private static int placeOf(List<String> face, String name) {
        for (int i = 0; i < face.size(); i++) {
            if (face.get(i).contains(" " + name + "(")) {
                return i;
            }
        }
        throw new IllegalArgumentException("no such call: " + name);
    }

    private static void constant() throws Exception {
        Field none = Collationer.class.getField("NONE");
        boolean isConstant = none.getType() == int.class && Modifier.isStatic(none.getModifiers())
                && Modifier.isFinal(none.getModifiers());
        if (!isConstant || Collationer.NONE != -1 || Collationer.class.getFields().length != 1) {
            wrong++;
            System.out.println("the constants: NONE alone is due, -1");
        }
    }

    private static void members() throws Exception {
        Class<?> type = Collationer.class;
        int calls = 0;
        for (Method method : type.getMethods()) {
            calls += method.getDeclaringClass() == type ? 1 : 0;
        }
        boolean isMade = type.getConstructors().length == 1 && type.getConstructor().getExceptionTypes().length == 0;
        if (calls != 38 - 1 || !isMade || !Modifier.isPublic(type.getModifiers()) || !Modifier.isFinal(type.getModifiers())
                || type.getSuperclass() != Object.class || type.getInterfaces().length != 0 || type.getPackageName().length() > 0) {
            wrong++;
            System.out.println("the class: public and final, with one constructor and 37 calls");
        }
    }
}
