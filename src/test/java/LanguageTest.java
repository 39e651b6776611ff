import java.lang.reflect.Executable;
import java.lang.reflect.Field;
import java.lang.reflect.Method;
import java.lang.reflect.Modifier;
import java.nio.file.Files;
import java.nio.file.Path;
import java.util.Arrays;
import java.util.HashSet;
import java.util.Set;
import java.util.TreeMap;

/** The rules of LANGUAGE.md that a look at the source and at the class can tell, and the document's face. */
public final class LanguageTest {
    private static final String[] FORBIDDEN = {
        "import ", "->", "::", "synchronized", "assert ", "finally", "throw new NullPointer", "catch", " try {",
        "static {", "Boolean.", "String.", "System.", "Exact(", "protected ", "lambda", "extends Exception", "\" +", "+ \"",
    };
    private static final int INSTANCE_FIELDS = 20;
    private static final int CLASSES = 12;
    private static final int PARAMETERS = 7;
    private static final int LINES_OF_A_METHOD = 60;

    private static int wrong;

    private LanguageTest() {
    }

    public static void main(String[] args) throws Exception {
        source(Files.readString(Path.of(args[0])));
        face();
        classes();
        System.out.println(wrong == 0 ? "the source keeps to the rules" : wrong + " rules are broken");
        if (wrong != 0) {
            System.exit(1);
        }
    }

    private static void due(boolean isRight, String otherwise) {
        if (!isRight) {
            wrong++;
            System.out.println(otherwise);
        }
    }

    private static void source(String source) {
        for (String word : FORBIDDEN) {
            due(!source.contains(word), "the source has: " + word);
        }
        due(source.chars().allMatch(c -> c <= 126), "a sign that is not ASCII");
        String[] lines = source.split("\n");
        for (int i = 0; i < lines.length; i++) {
            String indent = lines[i].startsWith(" ".repeat(8)) ? " ".repeat(8) : " ".repeat(4);
            if (lines[i].matches(indent + "\\w[^=;]*\\([^=;]*")) {
                int end = i;
                while (!lines[end].equals(indent + "}")) {
                    end++;
                }
                due(end - i < LINES_OF_A_METHOD, "too long: " + lines[i]);
            }
        }
    }

    private static Set<String> publicNames() {
        Set<String> names = new HashSet<>();
        for (Method method : Collationer.class.getDeclaredMethods()) {
            if (Modifier.isPublic(method.getModifiers())) {
                names.add(method.getName());
            }
        }
        return names;
    }

    private static void face() throws Exception {
        String exceptions = "IndexOutOfBoundsException IllegalArgumentException IllegalStateException";
        TreeMap<String, String> want = new TreeMap<>();
        String[] each = {"text", "wipe", "anchor", "pin II", "edition", "columns II", "texts", "entries", "dead", "sign I", "compose III", "option IIZ:Z", "heading IZ", "word I", "reading II", "signAt IZI", "rules I",
            "itemAt II", "element III", "entryAt II", "beneath II", "locatorAt II", "leads I", "moved I", "columnOf II", "lineAt IZI",
            "rule II", "adopt II", "entry III", "form III", "locate III:Z", "see IIZ:Z", "read II", "keyAt IIII", "compare IIII",
            "compareByLevels IIII", "find IIIII"};
        for (String one : each) {
            want.put(one.split(" ")[0], one);
        }
        for (Method method : Collationer.class.getDeclaredMethods()) {
            due(Modifier.isPublic(method.getModifiers()) || Modifier.isPrivate(method.getModifiers()), "open: " + method);
            if (!Modifier.isPublic(method.getModifiers())) {
                continue;
            }
            StringBuilder told = new StringBuilder(method.getName());
            for (Class<?> type : method.getParameterTypes()) {
                told.append(told.indexOf(" ") < 0 ? " " : "").append(type == int.class ? "I" : type == boolean.class ? "Z" : "?");
            }
            told.append(method.getReturnType() == boolean.class ? ":Z" : method.getReturnType() == int.class ? "" : ":?");
            due(told.toString().equals(want.remove(method.getName())), "not of the face: " + method);
            for (Class<?> type : method.getExceptionTypes()) {
                due(exceptions.contains(type.getSimpleName()), "throws another one: " + method);
            }
        }
        due(want.isEmpty(), "not there: " + want.values());
        due(Modifier.isPublic(Collationer.class.getDeclaredConstructor().getModifiers()), "no constructor");
        due(Modifier.isFinal(Collationer.class.getModifiers()), "not final");
        for (Field field : Collationer.class.getDeclaredFields()) {
            boolean isConstant = field.getName().equals("NONE") && field.getType() == int.class && Modifier.isFinal(field.getModifiers());
            due(Modifier.isPrivate(field.getModifiers()) || isConstant, "open: " + field);
        }
    }

    private static void classes() {
        Class<?>[] inside = Collationer.class.getDeclaredClasses();
        due(inside.length < CLASSES, "too many classes");
        for (Class<?> each : inside) {
            due(Modifier.isPrivate(each.getModifiers()) && Modifier.isStatic(each.getModifiers()), "open: " + each);
            members(each);
        }
        members(Collationer.class);
    }

    private static void members(Class<?> type) {
        int fields = 0;
        for (Field field : type.getDeclaredFields()) {
            boolean isStatic = Modifier.isStatic(field.getModifiers());
            due(!isStatic || Modifier.isFinal(field.getModifiers()), "static, and not final: " + field);
            fields += isStatic ? 0 : 1;
        }
        due(fields <= INSTANCE_FIELDS, "too many fields: " + type);
        Set<String> publicNames = publicNames();
        for (Method method : type.getDeclaredMethods()) {
            due(Modifier.isPublic(method.getModifiers()) || !publicNames.contains(method.getName()), "named like one of the face: " + method);
            due(!Arrays.asList("equals", "hashCode", "toString").contains(method.getName()), "not allowed: " + method);
            parameters(method);
        }
        for (Executable constructor : type.getDeclaredConstructors()) {
            parameters(constructor);
        }
    }

    private static void parameters(Executable member) {
        due(member.getParameterCount() <= PARAMETERS, "too many parameters: " + member);
    }
}
