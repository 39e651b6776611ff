import java.lang.reflect.InvocationTargetException;
import java.lang.reflect.Method;
import java.util.ArrayList;
import java.util.Arrays;
import java.util.HashMap;
import java.util.List;
import java.util.Map;
import java.util.Random;

/** Long runs of calls, drawn from fixed seeds, on the class and on the Model: every answer has to be the same. */
public final class RandomTest {
    private static final int CALLS = 512;
    private static final int KINDS = 22;
    private static final int[] ODD = {-1, -2, 3, 8, 12, 24, 28, 30, 40, 48, 100, 1000, Integer.MAX_VALUE, Integer.MIN_VALUE};
    private static final Map<String, Method> OF_CLASS = methods(Collationer.class);
    private static final Map<String, Method> OF_MODEL = methods(Model.class);

    private final Random random;
    private final Collationer x = new Collationer();
    private final Model model = new Model();
    private final List<String> calls = new ArrayList<>();
    private final int[] alphabet;
    private int texts;
    private int entries;
    private int words;
    private boolean isWrong;
    /** Of every other run the sort of calls that comes often, so that it comes to what is full; or -1. */
    private final int focus;

    private RandomTest(long seed) {
        random = new Random(seed);
        focus = seed % 2 == 0 ? -1 : (int) (seed / 2 % KINDS);
        alphabet = new int[4 + random.nextInt(9)];
        for (int i = 0; i < alphabet.length; i++) {
            int kind = random.nextInt(20);
            alphabet[i] = kind < 7 ? random.nextInt(5) : kind < 9 ? 12 + random.nextInt(5) : kind < 13 ? 24 + random.nextInt(4)
                    : kind < 14 ? 28 + random.nextInt(2) : kind < 16 ? 30 + random.nextInt(3) : kind < 19 ? 40 + random.nextInt(4)
                    : random.nextInt(40);
        }
    }

    private static Map<String, Method> methods(Class<?> type) {
        Map<String, Method> map = new HashMap<>();
        for (Method method : type.getDeclaredMethods()) {
            boolean isFace = Arrays.stream(Collationer.class.getMethods()).anyMatch(m -> m.getName().equals(method.getName())
                    && Arrays.equals(m.getParameterTypes(), method.getParameterTypes()));
            if (isFace) {
                map.put(method.getName(), method);
            }
        }
        return map;
    }

    private static String outcome(Map<String, Method> methods, Object object, String name, Object[] arguments) {
        try {
            return String.valueOf(methods.get(name).invoke(object, arguments));
        } catch (InvocationTargetException e) {
            return "throws." + e.getCause().getClass().getSimpleName();
        } catch (IllegalAccessException e) {
            return "no access";
        }
    }

    private String call(String name, Object... arguments) {
        if (calls.size() >= CALLS || isWrong) {
            return "over";
        }
        String got = outcome(OF_CLASS, x, name, arguments);
        String want = outcome(OF_MODEL, model, name, arguments);
        calls.add(name + Arrays.toString(arguments) + " -> " + got);
        if (!got.equals(want)) {
            isWrong = true;
            System.out.println(String.join("\n", calls));
            System.out.println("due is " + want);
        }
        return got;
    }

    /** Mostly below the bound, now and then at it, or far off. */
    private int upTo(int bound) {
        int kind = random.nextInt(60);
        return kind == 0 ? ODD[random.nextInt(ODD.length)] : kind == 1 ? bound : kind == 2 ? -1 : random.nextInt(Math.max(bound, 1));
    }

    private boolean coin() {
        return random.nextBoolean();
    }

    private void signs(int count) {
        for (int i = 0; i < count; i++) {
            call("sign", random.nextInt(12) == 0 ? upTo(48) : alphabet[random.nextInt(alphabet.length)]);
        }
    }

    private void compose() {
        int base = random.nextInt(3) == 0 ? 40 + random.nextInt(4) : random.nextInt(15) == 0 ? upTo(48) : alphabet[random.nextInt(alphabet.length)];
        call("compose", random.nextInt(15) == 0 ? upTo(60) : 40 + random.nextInt(5), base,
                random.nextInt(15) == 0 ? upTo(48) : 24 + random.nextInt(4));
    }

    private void rule() {
        int length = random.nextInt(8) == 0 ? 3 : 1 + random.nextInt(2);
        if (random.nextInt(6) == 0) {
            call("sign", 28 + random.nextInt(4));
        } else {
            signs(length);
        }
        if (random.nextInt(12) != 0) {
            call("anchor");
        }
        if (random.nextInt(3) > 0) {
            call("sign", coin() ? random.nextInt(3) : 12 + random.nextInt(3));
        }
        signs(random.nextInt(3));
        int how = random.nextInt(3) == 0 ? 7 : upTo(8);
        if (!call("rule", upTo(3), how).matches("\\d+") && coin()) {
            call("wipe");
        }
    }

    private void makeText() {
        signs(random.nextInt(5) == 0 ? 6 + random.nextInt(5) : 1 + random.nextInt(4));
        if (call("text").matches("\\d+")) {
            texts++;
        }
    }

    private void tell() {
        switch (focus >= 0 && random.nextInt(3) > 0 ? focus : random.nextInt(KINDS)) {
            case 0 -> compose();
            case 1, 2, 3 -> rule();
            case 4 -> call("adopt", upTo(3), upTo(3));
            case 5 -> call("option", upTo(3), upTo(3), random.nextInt(3) > 0);
            case 6 -> call("heading", random.nextInt(3) == 0 ? upTo(12) : random.nextInt(5), random.nextInt(4) > 0);
            case 7, 8, 9 -> {
                int parent = random.nextInt(3) > 0 ? -1 : upTo(entries);
                if (call("entry", parent, upTo(texts), random.nextInt(20) == 0 ? upTo(9) : 1 + random.nextInt(7)).matches("\\d+")) {
                    entries++;
                }
            }
            case 10 -> {
                int kind = upTo(3);
                call("form", upTo(entries), kind, kind == 0 ? random.nextInt(8) / 7 : upTo(4));
            }
            case 11, 12, 13 -> {
                int entry = upTo(Math.min(entries, 6));
                int base = 1 + random.nextInt(30);
                for (int i = 0; i < 4; i++) {
                    call("locate", entry, random.nextInt(20) == 0 ? upTo(1000) : base + random.nextInt(12), random.nextInt(3) > 0 ? 0 : upTo(3));
                }
            }
            case 14 -> call("see", upTo(entries), upTo(entries), coin());
            case 15, 16 -> {
                if (call("word", random.nextInt(20) == 0 ? upTo(texts) : random.nextInt(Math.max(1, Math.min(texts, 4)))).matches("\\d+")) {
                    words++;
                }
            }
            case 17 -> call("reading", upTo(Math.min(texts, 4)), upTo(texts));
            case 18 -> call("read", upTo(words), random.nextInt(3) == 0 ? -1 : upTo(texts));
            case 19 -> {
                int page = 1 + random.nextInt(10);
                int next = 1 + random.nextInt(10);
                for (int i = 0; i < 1 + random.nextInt(4); i++) {
                    call("pin", random.nextInt(20) == 0 ? upTo(1000) : page, random.nextInt(20) == 0 ? upTo(1000) : next);
                    page += 1 + random.nextInt(12);
                    next += 1 + random.nextInt(12);
                }
                if (coin()) {
                    call("edition");
                }
            }
            case 20 -> call("columns", coin() ? 4 + random.nextInt(6) : upTo(41), coin() ? 4 + random.nextInt(4) : upTo(41));
            default -> makeText();
        }
    }

    private void ask() {
        switch (random.nextInt(20)) {
            case 0 -> call("texts");
            case 1, 2 -> call("signAt", upTo(texts), coin(), upTo(5));
            case 3 -> call("rules", upTo(3));
            case 4 -> call("itemAt", upTo(3), upTo(40));
            case 5, 6 -> call("element", upTo(3), upTo(texts), upTo(6));
            case 7, 8 -> call("keyAt", upTo(3), 1 + upTo(4), upTo(texts), upTo(20));
            case 9 -> call("compare", upTo(3), 1 + upTo(4), upTo(texts), upTo(texts));
            case 10 -> call("compareByLevels", upTo(3), 1 + upTo(4), upTo(texts), upTo(texts));
            case 11, 12 -> call("find", upTo(3), 1 + upTo(4), upTo(texts), upTo(texts), upTo(3));
            case 13 -> call("entryAt", upTo(3), upTo(entries));
            case 14 -> call("beneath", upTo(3), upTo(entries));
            case 15 -> call("locatorAt", upTo(entries), upTo(4));
            case 16 -> {
                call("leads", upTo(entries));
                call("dead");
                call("entries");
            }
            case 17 -> call("moved", upTo(3));
            case 18 -> call("columnOf", upTo(3), upTo(entries));
            default -> call("lineAt", upTo(texts), coin(), upTo(4));
        }
    }

    private boolean run() {
        for (int i = random.nextInt(5); i > 0; i--) {
            compose();
        }
        for (int i = random.nextInt(8); i > 0; i--) {
            makeText();
        }
        while (calls.size() < CALLS && !isWrong) {
            if (coin()) {
                tell();
            } else {
                ask();
            }
        }
        return !isWrong;
    }

    public static void main(String[] args) {
        int runs = args.length > 1 ? Integer.parseInt(args[1]) : 1500;
        int first = args.length > 2 ? Integer.parseInt(args[2]) : 1;
        for (int seed = first; seed < first + runs; seed++) {
            if (!new RandomTest(seed).run()) {
                System.out.println("the run with the seed " + seed + " is wrong");
                System.exit(1);
            }
        }
        System.out.println(runs + " runs are as due");
    }
}
