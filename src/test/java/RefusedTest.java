import java.util.ArrayList;
import java.util.Arrays;
import java.util.List;
import java.util.Set;

/**
 * "A call that throws an exception changes nothing. If several apply, the one that the throws clause names first is
 * thrown.", and "orders, keys, headings, lines and columns are asked, which changes nothing".
 *
 * Three objects (new, with some of everything, full) get each call of the face with arguments that are wrong, one by one
 * and two at once. Then all that can be asked, and what calls that tell something answer, has to be as it is of an object
 * that did not get these calls.
 */
public final class RefusedTest {
    private static final int CALLS = 512;
    private static final int MOST_AHEAD = 60;
    private static final Set<String> TELLING = Set.of("sign", "compose", "text", "wipe", "anchor", "rule", "adopt", "option",
            "heading", "entry", "form", "locate", "see", "word", "reading", "read", "pin", "edition", "columns");
    private static final String[] EXCEPTIONS = {"IOOBE", "IAE", "ISE"};

    /** An object after some calls; how many texts, entries and words it has. */
    private record State(String name, String lines, int texts, int entries, int words) {
        Script begin() {
            return Script.run(name, lines);
        }
    }

    /** A call that is right, or throws ISE in the state, and which values of an argument make it throw what. */
    private record Frame(String call, boolean isRefused, List<Wrong> wrong) {
    }

    private record Wrong(int argument, String exception, String value) {
    }

    private RefusedTest() {
    }

    public static void main(String[] args) {
        State none = new State("a new object", "", 0, 0, 0);
        State some = new State("some of everything", someOfEverything(), 6, 5, 6);
        State full = new State("full", fullOfEverything(), 30, 24, 30);
        check(none, framesOfNone());
        check(some, framesOfSome());
        check(full, framesOfFull());
        Script.end();
    }

    private static String someOfEverything() {
        return """
                compose 40 0 24 -> 1
                compose 41 40 26 -> 2
                text 41 1 -> 0
                text 0 28 1 -> 1
                text 31 30 -> 2
                text 2 -> 3
                text 12 24 -> 4
                text 1 -> 5
                rule 0 1 : 0 / 0 24 -> 1
                rule 0 7 : 0 1 / 2 -> 2
                rule 1 4 : 0 / 1 -> 1
                option 0 0 true -> false
                option 1 2 true -> false
                heading 0 true -> 1
                heading 8 true -> 2
                entry -1 0 7 -> 0
                entry 0 1 1 -> 1
                entry -1 2 1 -> 2
                entry -1 3 5 -> 3
                entry -1 5 3 -> 4
                rule 0 3 : 0 / 5 -> 3
                rule 1 1 : 23 / 0 -> 2
                form 0 2 1 -> 0
                form 2 1 1 -> 0
                locate 0 5 0 -> true
                locate 0 6 0 -> true
                locate 1 5 1 -> true
                locate 3 999 2 -> true
                see 2 4 false -> true
                see 4 2 false -> true
                see 2 3 true -> true
                word 0 -> 0
                word 1 -> 1
                word 3 -> 2
                word 0 -> 3
                word 5 -> 4
                word 3 -> 5
                reading 3 5 -> 1
                reading 3 0 -> 2
                read 2 5 -> -1
                pin 5 10 -> 1
                columns 7 5 -> 12
                anchor 0 -> 1
                draft 3 24
                """;
    }

    private static String fullOfEverything() {
        StringBuilder lines = new StringBuilder();
        for (int composed = 40; composed < 48; composed++) {
            lines.append("compose " + composed + " " + (composed - 40) / 4 + " " + (24 + composed % 4) + "\n");
        }
        for (int text = 0; text < 30; text++) {
            int sign = text >= 20 && text < 28 ? text + 20 : text;
            lines.append("text " + sign + (text % 3 == 0 ? " 40 1" : "") + "\n");
        }
        for (int rule = 0; rule < 12; rule++) {
            lines.append("rule 0 " + rule % 7 + " : 0 / 1 " + rule + "\n");
        }
        lines.append("rule 1 0 : 0 / 1\n");
        for (int entry = 0; entry < 24; entry++) {
            lines.append("entry " + (entry % 3 == 1 ? entry - 1 : -1) + " " + (57 - entry) % 30 + " " + (1 + entry % 7) + "\n");
        }
        for (int page = 1; page <= 10; page++) {
            lines.append("locate 0 " + 5 * page + " " + page % 3 + "\n");
        }
        lines.append("see 0 1 false\n");
        for (int word = 0; word < 30; word++) {
            lines.append("word " + word % 10 + "\n");
        }
        lines.append("reading 0 1\nreading 0 2\nreading 0 3\nread 0 3\n");
        for (int pin = 1; pin <= 6; pin++) {
            lines.append("pin " + 10 * pin + " " + 9 * pin + "\n");
        }
        return lines + "anchor 0\ndraft 1 2 3 4 5 6 7 8 9 10\n";
    }

    // ---- wrong calls

    /** The call; then for each argument what is thrown, behind it by which values. */
    private static Frame frame(String call, boolean isRefused, String... wrong) {
        List<Wrong> all = new ArrayList<>();
        for (String one : wrong) {
            String[] words = one.split(" ");
            for (String value : Arrays.copyOfRange(words, 2, words.length)) {
                all.add(new Wrong(Integer.parseInt(words[0]), words[1], value));
            }
        }
        return new Frame(call, isRefused, all);
    }

    private static String far(int argument, String exception, String values) {
        return argument + " " + exception + " " + values + " least greatest";
    }

    /** What is not in the face's ranges, whatever the state. */
    private static String tailoring(int argument) {
        return far(argument, "IOOBE", "-1 3");
    }

    private static String strength(int argument) {
        return far(argument, "IAE", "0 5");
    }

    private static String place(int argument) {
        return argument + " IOOBE -1 least";
    }

    private static String numbered(int argument, int count) {
        return far(argument, "IOOBE", "-1 " + count);
    }

    private static List<Frame> framesOfNone() {
        return new ArrayList<>(List.of(
                frame("sign 0", false, far(0, "IOOBE", "-1 48 40 47")),
                frame("compose 40 0 24", false, far(0, "IOOBE", "-1 39 48"), far(1, "IOOBE", "-1 24 28 30 39 40 41 48"),
                        far(2, "IOOBE", "23 28")),
                frame("text", true),
                frame("anchor", true),
                frame("rule 0 1", true, tailoring(0), far(1, "IAE", "-1 8")),
                frame("adopt 0 1", false, tailoring(0), tailoring(1), "1 IAE 0"),
                frame("option 0 0 true", false, tailoring(0), far(1, "IOOBE", "-1 3")),
                frame("heading 0 true", false, far(0, "IOOBE", "-1 12")),
                frame("pin 1 1", false, far(0, "IAE", "0 1000 -1"), far(1, "IAE", "0 1000 -1")),
                frame("edition", true),
                frame("columns 4 4", false, far(0, "IAE", "3 41"), far(1, "IAE", "3 41")),
                frame("rules 0", false, tailoring(0)),
                frame("itemAt 0 0", false, tailoring(0), far(1, "IOOBE", "-1 36")),
                frame("moved 0", false, tailoring(0))));
    }

    /** Those that need a text, an entry or a word, of which there are so many. */
    private static List<Frame> framesOfNumbers(State state) {
        int texts = state.texts;
        int entries = state.entries;
        return List.of(
                frame("signAt 0 true 0", false, numbered(0, texts), place(2)),
                frame("element 0 0 0", false, tailoring(0), numbered(1, texts), place(2)),
                frame("keyAt 0 1 0 0", false, tailoring(0), strength(1), numbered(2, texts), place(3)),
                frame("compare 0 1 0 1", false, tailoring(0), strength(1), numbered(2, texts), numbered(3, texts)),
                frame("compareByLevels 0 1 0 1", false, tailoring(0), strength(1), numbered(2, texts), numbered(3, texts)),
                frame("find 0 1 0 0 0", false, tailoring(0), strength(1), numbered(2, texts), numbered(3, texts), place(4)),
                frame("entryAt 0 0", false, tailoring(0), numbered(1, 24)),
                frame("beneath 0 0", false, tailoring(0), numbered(1, entries)),
                frame("columnOf 0 0", false, tailoring(0), numbered(1, entries)),
                frame("locatorAt 0 0", false, numbered(0, entries), place(1)),
                frame("leads 0", false, numbered(0, entries)),
                frame("lineAt 1 true 0", false, numbered(0, texts), far(2, "IOOBE", "-1 " + state.words)),
                frame("read 0 -1", false, numbered(0, state.words), far(1, "IAE", "-2 " + texts)),
                frame("option 0 0 true", false, tailoring(0), far(1, "IOOBE", "-1 3")),
                frame("heading 0 true", false, far(0, "IOOBE", "-1 12")),
                frame("columns 4 4", false, far(0, "IAE", "3 41"), far(1, "IAE", "3 41")),
                frame("rules 0", false, tailoring(0)),
                frame("moved 0", false, tailoring(0)),
                frame("form 0 1 1", false, numbered(0, entries), far(1, "IAE", "-1 3 0"), far(2, "IAE", "0 -1 30")),
                frame("form 0 2 1", false, numbered(0, entries), far(1, "IAE", "-1 3 0"), far(2, "IAE", "0 -1 30")),
                frame("form 0 0 0", false, numbered(0, entries), far(1, "IAE", "-1 1 2 3"), far(2, "IAE", "1 -1 30")));
    }

    private static List<Frame> framesOfSome() {
        State counts = new State("", "", 6, 5, 6);
        List<Frame> frames = new ArrayList<>(framesOfNumbers(counts));
        frames.addAll(List.of(
                frame("sign 41", false, far(0, "IOOBE", "-1 48 42 47")),
                frame("compose 42 40 24", false, far(0, "IOOBE", "-1 39 48"), far(1, "IOOBE", "-1 24 39 41 42 48"),
                        far(2, "IOOBE", "23 28"), "0 ISE 40 41"),
                frame("compose 42 0 25", false, "2 ISE 24", "0 ISE 40"),
                frame("rule 1 1", false, tailoring(0), far(1, "IAE", "-1 8"), "1 ISE 7"),
                // 1 is the lemma of those that see 2 as 0 and 1, so that both orders can't be told together
                frame("adopt 2 0", false, tailoring(0), tailoring(1), "1 IAE 2"),
                frame("entry 0 0 1", false, far(0, "IOOBE", "-2 5"), numbered(1, 6), far(2, "IAE", "0 8 -1"), "0 ISE 1"),
                frame("locate 0 1 0", false, numbered(0, 5), far(1, "IAE", "0 1000 -1"), far(2, "IAE", "-1 3")),
                frame("see 2 4 false", false, numbered(0, 5), numbered(1, 5), "1 IAE 2", "1 ISE 0 1 3"),
                frame("see 2 4 true", false, numbered(0, 5), numbered(1, 5), "1 IAE 2"),
                frame("word 0", false, numbered(0, 6)),
                frame("reading 3 1", false, numbered(0, 6), numbered(1, 6), "1 ISE 5 0"),
                frame("read 2 0", false, numbered(0, 6), far(1, "IAE", "-2 1 3 6")),
                frame("pin 6 11", false, far(0, "IAE", "0 1000 -1 5 4"), far(1, "IAE", "0 1000 -1 10 9")),
                frame("edition", true),
                frame("itemAt 0 35", false, tailoring(0), far(1, "IOOBE", "-1 36"))));
        return frames;
    }

    private static List<Frame> framesOfFull() {
        State counts = new State("", "", 30, 24, 30);
        List<Frame> frames = new ArrayList<>(framesOfNumbers(counts));
        frames.addAll(List.of(
                frame("sign 0", true, far(0, "IOOBE", "-1 48")),
                frame("compose 40 0 24", true, far(0, "IOOBE", "-1 39 48"), far(1, "IOOBE", "-1 24 39 48"), far(2, "IOOBE", "23 28")),
                frame("compose 47 2 24", true, far(0, "IOOBE", "-1 39 48"), far(1, "IOOBE", "-1 24 39 48"), far(2, "IOOBE", "23 28")),
                frame("text", true),
                frame("rule 0 1", true, tailoring(0), far(1, "IAE", "-1 8")),
                frame("rule 1 1", true, tailoring(0), far(1, "IAE", "-1 8")),
                frame("adopt 1 0", true, tailoring(0), tailoring(1), "1 IAE 1", "0 IAE 0"),
                frame("adopt 0 1", true, tailoring(0), tailoring(1), "1 IAE 0", "0 IAE 1"),
                frame("entry -1 0 1", true, far(0, "IOOBE", "-2 24"), numbered(1, 30), far(2, "IAE", "0 8 -1")),
                frame("entry 0 0 1", true, far(0, "IOOBE", "-2 24"), numbered(1, 30), far(2, "IAE", "0 8 -1")),
                frame("entry 1 0 1", true, far(0, "IOOBE", "-2 24"), numbered(1, 30), far(2, "IAE", "0 8 -1")),
                frame("locate 0 1 0", true, numbered(0, 24), far(1, "IAE", "0 1000 -1"), far(2, "IAE", "-1 3")),
                frame("see 0 2 false", true, numbered(0, 24), numbered(1, 24), "1 IAE 0"),
                frame("word 0", true, numbered(0, 30)),
                frame("reading 0 4", true, numbered(0, 30), numbered(1, 30)),
                frame("reading 0 3", true, numbered(0, 30), numbered(1, 30)),
                frame("pin 61 55", true, far(0, "IAE", "0 1000 -1 60 59"), far(1, "IAE", "0 1000 -1 54 53")),
                frame("itemAt 0 47", false, tailoring(0), far(1, "IOOBE", "-1 48"))));
        return frames;
    }

    // ---- what is thrown

    private static void check(State state, List<Frame> frames) {
        List<List<String>> asked = questions(state);
        List<List<String>> due = new ArrayList<>();
        for (List<String> each : asked) {
            due.add(answers(state.begin(), each));
        }
        for (Frame frame : frames) {
            rightOrRefused(state, frame);
            List<String> calls = singles(frame);
            unchanged(state, frame.call, calls, asked, due);
            for (List<String> some : parts(pairs(frame), 100)) {
                state.begin().lines(String.join("\n", some));
            }
        }
        askedChangesNothing(state, asked, due);
    }

    private static void rightOrRefused(State state, Frame frame) {
        state.begin().lines(frame.call + (frame.isRefused ? " -> ISE" : ""));
    }

    private static List<String> singles(Frame frame) {
        List<String> calls = new ArrayList<>();
        if (frame.isRefused) {
            calls.add(frame.call + " -> ISE");
        }
        for (Wrong wrong : frame.wrong) {
            calls.add(call(frame, wrong, wrong));
        }
        return calls;
    }

    private static List<String> pairs(Frame frame) {
        List<String> calls = new ArrayList<>();
        for (Wrong one : frame.wrong) {
            for (Wrong other : frame.wrong) {
                // two arguments that are wrong beside the frame's other ones may be right together, but for IOOBE
                boolean isSure = one.exception.equals("IOOBE") || !one.exception.equals(other.exception);
                if (one.argument < other.argument && isSure) {
                    calls.add(call(frame, one, other));
                }
            }
        }
        return calls;
    }

    private static String call(Frame frame, Wrong one, Wrong other) {
        String[] words = frame.call.split(" ");
        words[1 + one.argument] = one.value;
        words[1 + other.argument] = other.value;
        for (String exception : EXCEPTIONS) {
            if (one.exception.equals(exception) || other.exception.equals(exception)) {
                return String.join(" ", words) + " -> " + exception;
            }
        }
        throw new IllegalStateException(frame.call);
    }

    private static List<List<String>> parts(List<String> calls, int most) {
        List<List<String>> parts = new ArrayList<>();
        for (int from = 0; from < calls.size(); from += most) {
            parts.add(calls.subList(from, Math.min(from + most, calls.size())));
        }
        return parts;
    }

    // ---- what is as it was

    private static void unchanged(State state, String what, List<String> refused, List<List<String>> asked, List<List<String>> due) {
        for (List<String> some : parts(refused, MOST_AHEAD)) {
            for (int i = 0; i < asked.size(); i++) {
                Script script = state.begin();
                script.lines(String.join("\n", some));
                same(state.name + ", behind wrong calls as " + what, answers(script, asked.get(i)), due.get(i));
            }
        }
    }

    private static void askedChangesNothing(State state, List<List<String>> asked, List<List<String>> due) {
        List<String> all = new ArrayList<>();
        asked.forEach(all::addAll);
        all.removeIf(call -> TELLING.contains(call.split(" ")[0]));
        for (List<String> some : parts(all, MOST_AHEAD)) {
            for (int i = 0; i < asked.size(); i++) {
                Script script = state.begin();
                answers(script, some);
                same(state.name + ", when it was asked for " + some.get(0), answers(script, asked.get(i)), due.get(i));
            }
        }
    }

    private static void same(String what, List<String> got, List<String> due) {
        int i = 0;
        while (i < due.size() - 1 && got.get(i).equals(due.get(i))) {
            i++;
        }
        Script.same(what, got.get(i), due.get(i));
    }

    private static List<String> answers(Script script, List<String> calls) {
        List<String> answers = new ArrayList<>();
        for (String call : calls) {
            String[] words = call.split(" ");
            answers.add(call + " -> " + script.call(words[0], Script.arguments(words, 1)));
        }
        return answers;
    }

    // ---- all that can be asked

    private static List<List<String>> questions(State state) {
        List<String> all = new ArrayList<>(List.of("texts", "entries", "dead"));
        for (int t = 0; t < 3; t++) {
            all.add("rules " + t);
            all.add("moved " + t);
            for (int i = 0; i < 49; i++) {
                all.add("itemAt " + t + " " + i);
            }
            for (int text = 0; text < state.texts; text++) {
                for (int i = 0; i < 6; i++) {
                    all.add("element " + t + " " + text + " " + i);
                    all.add("keyAt " + t + " 4 " + text + " " + 2 * i);
                }
                all.add("compare " + t + " 4 0 " + text);
                all.add("compareByLevels " + t + " 4 " + text + " 0");
                all.add("find " + t + " 1 " + text + " " + (text + 1) % state.texts + " 0");
            }
            for (int entry = 0; entry <= state.entries; entry++) {
                all.add("entryAt " + t + " " + entry);
                all.add("beneath " + t + " " + entry);
                all.add("columnOf " + t + " " + entry);
            }
        }
        for (int text = 0; text < state.texts; text++) {
            for (int i = 0; i < 5; i++) {
                all.add("signAt " + text + " " + (i % 2 == 0) + " " + i / 2);
                all.add("lineAt " + text + " " + (i % 2 == 0) + " " + i / 2);
            }
        }
        for (int entry = 0; entry < state.entries; entry++) {
            all.add("leads " + entry);
            for (int group = 0; group < (entry == 0 ? 11 : 3); group++) {
                all.add("locatorAt " + entry + " " + group);
            }
        }
        int room = CALLS - MOST_AHEAD - 1 - (int) state.lines.lines().mapToLong(RefusedTest::callsOf).sum();
        List<List<String>> parts = parts(all, room);
        parts.addAll(tellings(state));
        return parts;
    }

    private static int callsOf(String line) {
        String[] words = line.strip().split("\\s*->\\s*")[0].split("\\s+");
        int signs = (int) Arrays.stream(words).skip(1).filter(w -> w.matches("\\d+")).count();
        return switch (words[0]) {
            case "text", "anchor", "draft" -> signs + 1;
            case "rule" -> signs;
            default -> 1;
        };
    }

    /** What can't be asked but by telling something: each part for an object of its own. */
    private static List<List<String>> tellings(State state) {
        List<List<String>> all = new ArrayList<>();
        List<String> anchor = new ArrayList<>(List.of("wipe", "sign 3", "rule 2 0"));
        List<String> draft = new ArrayList<>(List.of("text", "rule 2 0"));
        List<String> pins = new ArrayList<>(List.of("pin 3 2", "pin 12 11", "pin 61 60", "pin 998 998", "edition"));
        List<String> composed = new ArrayList<>();
        List<String> options = new ArrayList<>(List.of("columns 12 10"));
        List<String> forms = new ArrayList<>(List.of("entry -1 0 7"));
        List<String> words = new ArrayList<>(List.of("word 0"));
        for (int i = 0; i < 49; i++) {
            anchor.add("itemAt 2 " + i);
            draft.add("itemAt 2 " + i);
        }
        for (int i = 0; i < 10; i++) {
            draft.add("signAt " + state.texts + " true " + i);
            draft.add("sign 5");
            pins.add("locatorAt 0 " + i);
            pins.add("locatorAt 3 " + i);
        }
        draft.add("wipe");
        for (int sign = 40; sign < 48; sign++) {
            composed.add("sign " + sign);
            composed.add("wipe");
        }
        for (int sign = 40; sign < 48; sign++) {
            composed.add("compose " + sign + " 11 " + (24 + sign % 4));
            composed.add("compose " + sign + " 0 " + (24 + sign % 4));
        }
        for (int i = 0; i < 12; i++) {
            options.add("option " + i % 3 + " " + i / 3 + " false");
            options.add("heading " + i + " false");
        }
        for (int entry = 0; entry < 24; entry++) {
            forms.add("form " + entry + " 0 0");
            forms.add("see " + entry + " 23 false");
            forms.add("locate " + entry + " 25 2");
        }
        for (int i = 0; i < 30; i++) {
            words.add("reading " + i + " 0");
            words.add("read " + i + " -1");
        }
        all.addAll(List.of(anchor, draft, pins, composed, options, forms, words));
        return all;
    }
}
