import java.lang.reflect.InvocationTargetException;
import java.lang.reflect.Method;
import java.util.HashMap;
import java.util.Map;

/**
 * A run of calls on one new object, told in lines: a method's name, its arguments and, behind "->", the answer due
 * (IOOBE, IAE and ISE are the exceptions; the arguments "least" and "greatest" are the least and the greatest int).
 * Besides:
 * draft S S S             puts these signs behind the draft
 * text S S S -> N         the same, and text(); so with anchor
 * rule T H : S S / S S    the same with an anchor and an item
 * norule T H : S S / S S  such a rule is not possible, and its item is still the draft, which is wiped then
 * times N LINE            the line N times, where no answer is due
 * all M A A -> V V        the method M asked for the indexes 0, 1 .. behind the arguments: these answers, and no more
 * items T I -> V V        itemAt from the index I on: these answers, one behind the other
 * orders T S A B -> N     compare and compareByLevels, and both the other way round
 */
final class Script {
    private static final int CALLS = 512;
    private static final Map<String, Method> FACE = new HashMap<>();
    private static int wrong;
    private static int answers;

    private final String name;
    private final Collationer x = new Collationer();
    private int calls;

    static {
        for (Method method : Collationer.class.getMethods()) {
            if (method.getDeclaringClass() == Collationer.class) {
                FACE.put(method.getName(), method);
            }
        }
    }

    Script(String name) {
        this.name = name;
    }

    static Script run(String name, String lines) {
        Script script = new Script(name);
        script.lines(lines);
        return script;
    }

    static void end() {
        System.out.println(wrong == 0 ? answers + " answers are as due" : wrong + " answers are not as due");
        if (wrong != 0) {
            System.exit(1);
        }
    }

    void lines(String lines) {
        for (String line : lines.split("\n")) {
            if (!line.isBlank() && !line.strip().startsWith("#")) {
                line(line.strip());
            }
        }
    }

    private void line(String line) {
        String[] sides = line.split("\\s*->\\s*");
        String[] words = sides[0].split("\\s+");
        String want = sides.length > 1 ? sides[1].strip() : null;
        switch (words[0]) {
            case "times" -> {
                for (int i = 0; i < Integer.parseInt(words[1]); i++) {
                    line(line.split("\\s+", 3)[2]);
                }
            }
            case "draft" -> draft(words, 1, words.length);
            case "text", "anchor" -> {
                draft(words, 1, words.length);
                due(want, words[0]);
            }
            case "rule" -> rule(words, want);
            case "norule" -> noRule(words);
            case "all" -> all(words[1], arguments(words, 2), want == null ? new String[0] : want.split("\\s+"));
            case "items" -> items(Integer.valueOf(words[1]), Integer.parseInt(words[2]), want.split("\\s+"));
            case "orders" -> orders(arguments(words, 1), Integer.parseInt(want));
            default -> {
                due(want, words[0], arguments(words, 1));
            }
        }
    }

    static Object[] arguments(String[] words, int from) {
        Object[] arguments = new Object[words.length - from];
        for (int i = 0; i < arguments.length; i++) {
            arguments[i] = argument(words[i + from]);
        }
        return arguments;
    }

    private static Object argument(String word) {
        return switch (word) {
            case "true", "false" -> Boolean.valueOf(word);
            case "least" -> Integer.MIN_VALUE;
            case "greatest" -> Integer.MAX_VALUE;
            default -> Integer.valueOf(word);
        };
    }

    private void all(String method, Object[] arguments, String[] wants) {
        Object[] all = java.util.Arrays.copyOf(arguments, arguments.length + 1);
        for (int i = 0; i <= wants.length; i++) {
            all[arguments.length] = i;
            String end = method.matches("itemAt|entryAt|lineAt") ? "IOOBE" : "-1";
            due(i < wants.length ? wants[i] : end, method, all);
        }
    }

    private void items(Integer tailoring, int from, String[] wants) {
        for (int i = 0; i < wants.length; i++) {
            due(wants[i], "itemAt", tailoring, from + i);
        }
    }

    private void orders(Object[] a, int want) {
        due(want, "compareByLevels", a);
        due(-want, "compareByLevels", a[0], a[1], a[3], a[2]);
        due(want, "compare", a);
        due(-want, "compare", a[0], a[1], a[3], a[2]);
    }

    private void draft(String[] words, int from, int to) {
        for (int i = from; i < to; i++) {
            due(null, "sign", Integer.valueOf(words[i]));
        }
    }

    private void rule(String[] words, String want) {
        int colon = java.util.Arrays.asList(words).indexOf(":");
        int slash = java.util.Arrays.asList(words).indexOf("/");
        if (colon > 0) {
            draft(words, colon + 1, slash);
            due(null, "anchor");
            draft(words, slash + 1, words.length);
        }
        due(want, "rule", argument(words[1]), argument(words[2]));
    }

    private void noRule(String[] words) {
        rule(words, "ISE");
        due(words.length - 1 - java.util.Arrays.asList(words).indexOf("/"), "wipe");
    }

    /** The answer as a text; exceptions by their short names. */
    String call(String method, Object... arguments) {
        calls++;
        if (calls == CALLS + 1) {
            wrong++;
            System.out.println(name + ": the test has more calls than are promised");
        }
        try {
            return String.valueOf(FACE.get(method).invoke(x, arguments));
        } catch (InvocationTargetException e) {
            Class<?> type = e.getCause().getClass();
            return type == IndexOutOfBoundsException.class ? "IOOBE"
                    : type == IllegalArgumentException.class ? "IAE"
                    : type == IllegalStateException.class ? "ISE" : type.getName();
        } catch (IllegalAccessException e) {
            return "no access";
        }
    }

    void due(Object want, String method, Object... arguments) {
        String got = call(method, arguments);
        boolean isThrown = got.matches("IOOBE|IAE|ISE|.*\\..*");
        if (want == null ? isThrown : !got.equals(String.valueOf(want))) {
            wrong++;
            System.out.println(name + ": " + method + java.util.Arrays.toString(arguments) + " answered " + got
                    + ", due is " + (want == null ? "no exception" : want));
        }
        answers++;
    }

    static void same(String what, Object one, Object other) {
        answers++;
        if (!one.equals(other)) {
            wrong++;
            System.out.println(what + ": " + one + " and " + other + " are not the same");
        }
    }
}
