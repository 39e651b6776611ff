import java.util.ArrayList;
import java.util.Arrays;
import java.util.Collections;
import java.util.Comparator;
import java.util.HashMap;
import java.util.HashSet;
import java.util.List;
import java.util.Map;
import java.util.Set;
import java.util.TreeMap;
import java.util.TreeSet;

/**
 * The document once more, in its plainest words and with the whole Java library, to compare the class with.
 * Everything is found anew with every call, and rows are lists, so that it shares no way of working with the class.
 */
final class Model {
    static final int NONE = -1;

    private static final class Item {
        final List<Integer> signs;
        int level;

        Item(List<Integer> signs, int level) {
            this.signs = signs;
            this.level = level;
        }
    }

    private record Told(int how, List<Integer> anchor, List<Integer> item) {
    }

    private static final class Order {
        List<Item> list = new ArrayList<>();
        Map<List<Integer>, List<Integer>> several = new HashMap<>();
        List<Told> told = new ArrayList<>();
        boolean[] options = new boolean[3];
        List<Integer> before = List.of();

        Order() {
            list.add(new Item(List.of(28), 1));
            list.add(new Item(List.of(29), 1));
            for (int d = 30; d <= 39; d++) {
                list.add(new Item(List.of(d), 1));
            }
            for (int l = 0; l <= 11; l++) {
                list.add(new Item(List.of(l), 1));
                list.add(new Item(List.of(l + 12), 3));
            }
        }

        Order copy() {
            Order copy = new Order();
            copy.list = new ArrayList<>();
            for (Item item : list) {
                copy.list.add(new Item(item.signs, item.level));
            }
            copy.several = new HashMap<>(several);
            copy.told = new ArrayList<>(told);
            copy.options = options.clone();
            copy.before = before;
            return copy;
        }

        int place(List<Integer> signs) {
            for (int i = 0; i < list.size(); i++) {
                if (list.get(i).signs.equals(signs)) {
                    return i;
                }
            }
            return -1;
        }

        boolean knows(List<Integer> signs) {
            return place(signs) >= 0 || several.containsKey(signs);
        }

        int[] weights(List<Integer> signs) {
            int[] w = {1, 1, 1};
            for (int i = 1; i <= place(signs); i++) {
                switch (list.get(i).level) {
                    case 1 -> w = new int[] {w[0] + 1, 1, 1};
                    case 2 -> w = new int[] {w[0], w[1] + 1, 1};
                    case 3 -> w = new int[] {w[0], w[1], w[2] + 1};
                    default -> { }
                }
            }
            return w;
        }

        boolean isPossible(Told rule) {
            List<Integer> item = rule.item;
            List<Integer> anchor = rule.anchor;
            if (told.size() >= 12 || item.isEmpty() || anchor.isEmpty() || item.size() > 3) {
                return false;
            }
            for (int i = 0; i < item.size(); i++) {
                int s = item.get(i);
                if (s >= 28 || i == 0 && s >= 24) {
                    return false;
                }
            }
            if (anchor.equals(item)) {
                return false;
            }
            if (rule.how != 7) {
                return place(anchor) >= 0;
            }
            if (anchor.size() != 2 && anchor.size() != 3) {
                return false;
            }
            for (int s : anchor) {
                if (s >= 24 || place(List.of(s)) < 0 || item.equals(List.of(s))) {
                    return false;
                }
            }
            for (Map.Entry<List<Integer>, List<Integer>> e : several.entrySet()) {
                if (!e.getKey().equals(item) && item.size() == 1 && e.getValue().contains(item.get(0))) {
                    return false;
                }
            }
            return true;
        }

        void tell(Told rule) {
            int old = place(rule.item);
            if (old >= 0) {
                if (old + 1 < list.size()) {
                    Item next = list.get(old + 1);
                    next.level = Math.min(next.level, list.get(old).level);
                }
                list.remove(old);
            }
            several.remove(rule.item);
            if (rule.how == 7) {
                several.put(rule.item, rule.anchor);
            } else if (rule.how <= 3) {
                int level = rule.how == 0 ? 4 : rule.how;
                int at = place(rule.anchor) + 1;
                while (at < list.size() && list.get(at).level > level) {
                    at++;
                }
                list.add(at, new Item(rule.item, level));
            } else {
                int level = rule.how - 3;
                int at = place(rule.anchor);
                while (list.get(at).level > level) {
                    at--;
                }
                Item x = list.get(at);
                list.add(at, new Item(rule.item, x.level));
                x.level = level;
            }
            told.add(rule);
        }
    }

    private static final class Element {
        final int[] w;
        final Set<Integer> taken;
        final char kind;

        Element(int[] w, Set<Integer> taken, char kind) {
            this.w = w;
            this.taken = taken;
            this.kind = kind;
        }
    }

    private static final class Entry {
        int text;
        int parent;
        int indexes;
        int kind;
        int n;
        Set<List<Integer>> locators = new HashSet<>();
        int sees = NONE;
        Set<Integer> also = new TreeSet<>();
    }

    private final Map<Integer, int[]> composed = new TreeMap<>();
    private List<Integer> draft = new ArrayList<>();
    private List<Integer> anchor = new ArrayList<>();
    private final List<List<Integer>> texts = new ArrayList<>();
    private final Order[] orders = {new Order(), new Order(), new Order()};
    private final Set<Integer> headings = new TreeSet<>();
    private final List<Entry> entries = new ArrayList<>();
    private final List<int[]> words = new ArrayList<>();
    private final Map<Integer, List<Integer>> readings = new HashMap<>();
    private final List<int[]> pins = new ArrayList<>();
    private int width = 12;
    private int height = 10;

    // ---- what goes wrong

    private static void range(boolean isRight) {
        if (!isRight) {
            throw new IndexOutOfBoundsException();
        }
    }

    private static void argument(boolean isRight) {
        if (!isRight) {
            throw new IllegalArgumentException();
        }
    }

    private static void state(boolean isRight) {
        if (!isRight) {
            throw new IllegalStateException();
        }
    }

    private static void tailoring(int t) {
        range(t >= 0 && t <= 2);
    }

    private void isText(int t) {
        range(t >= 0 && t < texts.size());
    }

    private Entry isEntry(int e) {
        range(e >= 0 && e < entries.size());
        return entries.get(e);
    }

    private void isOf(int index, int entry) {
        tailoring(index);
        isEntry(entry);
        range((entries.get(entry).indexes & (1 << index)) != 0);
    }

    // ---- signs and texts

    private static int classOf(int mark) {
        return mark == 26 ? 2 : mark == 27 ? 3 : 1;
    }

    private static boolean mark(int s) {
        return s >= 24 && s <= 27;
    }

    int sign(int s) {
        range(s >= 0 && s < 40 || composed.containsKey(s));
        state(draft.size() < 10);
        draft.add(s);
        return draft.size();
    }

    int compose(int s, int base, int m) {
        range(s >= 40 && s <= 47);
        range(base >= 0 && base < 24 || composed.containsKey(base) && composed.get(base)[0] < 24);
        range(mark(m));
        state(!composed.containsKey(s));
        state(together(base, m) == NONE);
        composed.put(s, new int[] {base, m});
        return composed.size();
    }

    private int together(int base, int m) {
        for (Map.Entry<Integer, int[]> e : composed.entrySet()) {
            if (e.getValue()[0] == base && e.getValue()[1] == m) {
                return e.getKey();
            }
        }
        return NONE;
    }

    private List<Integer> apart(List<Integer> signs) {
        List<Integer> all = new ArrayList<>();
        for (int s : signs) {
            if (composed.containsKey(s)) {
                all.addAll(apart(List.of(composed.get(s)[0])));
                all.add(composed.get(s)[1]);
            } else {
                all.add(s);
            }
        }
        List<Integer> sorted = new ArrayList<>();
        List<Integer> run = new ArrayList<>();
        for (int s : all) {
            if (mark(s)) {
                run.add(s);
            } else {
                run.sort(Comparator.comparing(Model::classOf));
                sorted.addAll(run);
                run.clear();
                sorted.add(s);
            }
        }
        run.sort(Comparator.comparing(Model::classOf));
        sorted.addAll(run);
        return sorted;
    }

    private List<Integer> whole(List<Integer> apart) {
        List<Integer> result = new ArrayList<>();
        int i = 0;
        while (i < apart.size()) {
            int become = apart.get(i++);
            if (become >= 24) {
                result.add(become);
                continue;
            }
            List<Integer> stay = new ArrayList<>();
            for (; i < apart.size() && mark(apart.get(i)); i++) {
                int m = apart.get(i);
                boolean blocked = stay.stream().anyMatch(b -> classOf(b) >= classOf(m));
                if (!blocked && together(become, m) != NONE) {
                    become = together(become, m);
                } else {
                    stay.add(m);
                }
            }
            result.add(become);
            result.addAll(stay);
        }
        return result;
    }

    int text() {
        state(!draft.isEmpty() && texts.size() < 30);
        texts.add(apart(draft));
        draft = new ArrayList<>();
        return texts.size() - 1;
    }

    int wipe() {
        int had = draft.size();
        draft = new ArrayList<>();
        return had;
    }

    // ---- tailorings

    int anchor() {
        state(!draft.isEmpty());
        anchor = apart(draft);
        draft = new ArrayList<>();
        return anchor.size();
    }

    int rule(int t, int how) {
        tailoring(t);
        argument(how >= 0 && how <= 7);
        Told rule = new Told(how, anchor, apart(draft));
        state(orders[t].isPossible(rule));
        orders[t].before = index(t);
        orders[t].tell(rule);
        anchor = new ArrayList<>();
        draft = new ArrayList<>();
        return orders[t].told.size();
    }

    int adopt(int to, int from) {
        tailoring(to);
        tailoring(from);
        argument(to != from);
        Order next = orders[to].copy();
        next.before = index(to);
        for (Told rule : orders[from].told) {
            state(next.isPossible(rule));
            next.tell(rule);
        }
        orders[to] = next;
        return next.told.size();
    }

    boolean option(int t, int what, boolean isOn) {
        tailoring(t);
        range(what >= 0 && what <= 2);
        orders[t].before = index(t);
        boolean was = orders[t].options[what];
        orders[t].options[what] = isOn;
        return was;
    }

    // ---- entries

    int heading(int letter, boolean isOn) {
        range(letter >= 0 && letter <= 11);
        if (isOn) {
            headings.add(letter);
        } else {
            headings.remove(letter);
        }
        return headings.size();
    }

    int entry(int parent, int text, int indexes) {
        range(parent == NONE || parent >= 0 && parent < entries.size());
        isText(text);
        argument(indexes >= 1 && indexes <= 7);
        state(parent == NONE || entries.get(parent).parent == NONE);
        state(entries.size() < 24);
        Entry e = new Entry();
        e.text = text;
        e.parent = parent;
        e.indexes = parent == NONE ? indexes : entries.get(parent).indexes;
        entries.add(e);
        return entries.size() - 1;
    }

    int form(int entry, int kind, int n) {
        Entry e = isEntry(entry);
        argument(kind >= 0 && kind <= 2);
        argument(kind == 0 ? n == 0 : n >= 1 && n < texts.get(e.text).size());
        int was = e.kind;
        e.kind = kind;
        e.n = n;
        return was;
    }

    boolean locate(int entry, int page, int sort) {
        Entry e = isEntry(entry);
        argument(page >= 1 && page <= 999 && sort >= 0 && sort <= 2);
        if (e.locators.contains(List.of(page, sort))) {
            return false;
        }
        state(e.locators.size() < 10);
        return e.locators.add(List.of(page, sort));
    }

    boolean see(int entry, int target, boolean isAlso) {
        Entry e = isEntry(entry);
        isEntry(target);
        argument(entry != target);
        if (isAlso) {
            return e.also.add(target);
        }
        state(e.sees == NONE || e.sees == target);
        boolean isNew = e.sees == NONE;
        e.sees = target;
        return isNew;
    }

    // ---- words, editions, columns

    int word(int text) {
        isText(text);
        state(words.size() < 30);
        words.add(new int[] {text, NONE});
        return words.size() - 1;
    }

    private List<Integer> readingsOf(int text) {
        return readings.computeIfAbsent(text, k -> new ArrayList<>());
    }

    int reading(int text, int lemma) {
        isText(text);
        isText(lemma);
        state(!readingsOf(text).contains(lemma) && readingsOf(text).size() < 3);
        readingsOf(text).add(lemma);
        return readingsOf(text).size();
    }

    int read(int word, int lemma) {
        range(word >= 0 && word < words.size());
        argument(lemma == NONE || readingsOf(words.get(word)[0]).contains(lemma));
        int was = words.get(word)[1];
        words.get(word)[1] = lemma;
        return was;
    }

    int pin(int page, int next) {
        argument(page >= 1 && page <= 999 && next >= 1 && next <= 999);
        if (!pins.isEmpty()) {
            int[] last = pins.get(pins.size() - 1);
            argument(page > last[0] && next > last[1]);
        }
        state(pins.size() < 6);
        pins.add(new int[] {page, next});
        return pins.size();
    }

    int edition() {
        state(pins.size() >= 2);
        int lost = 0;
        for (Entry e : entries) {
            Set<List<Integer>> next = new HashSet<>();
            for (List<Integer> locator : e.locators) {
                int page = nextPage(locator.get(0));
                if (page == NONE) {
                    lost++;
                } else {
                    next.add(List.of(page, locator.get(1)));
                }
            }
            e.locators = next;
        }
        pins.clear();
        return lost;
    }

    private int nextPage(int page) {
        for (int i = 0; i < pins.size(); i++) {
            if (pins.get(i)[0] == page) {
                return pins.get(i)[1];
            }
        }
        for (int i = 0; i + 1 < pins.size(); i++) {
            int[] a = pins.get(i);
            int[] b = pins.get(i + 1);
            if (a[0] < page && page < b[0]) {
                return a[1] + (page - a[0]) * (b[1] - a[1]) / (b[0] - a[0]);
            }
        }
        return NONE;
    }

    int columns(int w, int h) {
        argument(w >= 4 && w <= 40 && h >= 4 && h <= 40);
        int had = width;
        width = w;
        height = h;
        return had;
    }

    // ---- what is asked: texts and orders

    int texts() {
        return texts.size();
    }

    int signAt(int text, boolean isApart, int index) {
        isText(text);
        range(index >= 0);
        List<Integer> row = isApart ? texts.get(text) : whole(texts.get(text));
        return index < row.size() ? row.get(index) : NONE;
    }

    int rules(int t) {
        tailoring(t);
        return orders[t].told.size();
    }

    int itemAt(int t, int index) {
        tailoring(t);
        range(index >= 0 && index < orders[t].list.size());
        Item item = orders[t].list.get(index);
        int number = 0;
        for (int s : item.signs) {
            number = number * 100 + s + 1;
        }
        return item.level * 1000000 + number;
    }

    private List<Element> elements(Order order, List<Integer> row) {
        List<Element> result = new ArrayList<>();
        Set<Integer> gone = new HashSet<>();
        char kind = 'o';
        int i = 0;
        while (i < row.size()) {
            int s = row.get(i);
            if (gone.contains(i)) {
                i++;
            } else if (mark(s)) {
                result.add(new Element(new int[] {0, 2 + s - 24, 1}, Set.of(i), kind == 'b' ? 'm' : 'o'));
                i++;
            } else if (order.options[2] && s >= 30) {
                int end = i;
                Set<Integer> taken = new HashSet<>();
                StringBuilder digits = new StringBuilder();
                while (end < row.size() && row.get(end) >= 30 && row.get(end) < 40) {
                    digits.append(row.get(end) - 30);
                    taken.add(end++);
                }
                String value = new java.math.BigInteger(digits.toString()).toString();
                result.add(new Element(new int[] {order.weights(List.of(30))[0], 1, 1}, taken, 'o'));
                result.add(new Element(new int[] {value.length(), 1, 1}, taken, 'o'));
                for (char c : value.toCharArray()) {
                    result.add(new Element(new int[] {c - '0' + 1, 1, 1}, taken, 'o'));
                }
                kind = 'o';
                i = end;
            } else {
                kind = s == 28 || s == 29 ? 'b' : 'o';
                i = item(order, row, i, gone, kind, result);
            }
        }
        return result;
    }

    private int item(Order order, List<Integer> row, int from, Set<Integer> gone, char kind, List<Element> result) {
        int end = from + 1;
        for (int k = 2; k <= 3 && from + k <= row.size(); k++) {
            if (order.knows(row.subList(from, from + k))) {
                end = from + k;
            }
        }
        List<Integer> taken = new ArrayList<>(row.subList(from, end));
        Set<Integer> places = new HashSet<>();
        for (int p = from; p < end; p++) {
            places.add(p);
        }
        List<Integer> left = new ArrayList<>();
        for (int p = end; p < row.size() && mark(row.get(p)); p++) {
            int m = row.get(p);
            List<Integer> more = new ArrayList<>(taken);
            more.add(m);
            if (left.stream().noneMatch(b -> classOf(b) >= classOf(m)) && order.knows(more)) {
                taken = more;
                places.add(p);
            } else {
                left.add(m);
            }
        }
        gone.addAll(places);
        List<List<Integer>> items = new ArrayList<>();
        if (order.several.containsKey(taken)) {
            for (int s : order.several.get(taken)) {
                items.add(List.of(s));
            }
        } else {
            items.add(taken);
        }
        for (List<Integer> one : items) {
            result.add(new Element(order.weights(one), places, kind));
        }
        return end;
    }

    int element(int t, int text, int index) {
        tailoring(t);
        isText(text);
        range(index >= 0);
        List<Element> all = elements(orders[t], texts.get(text));
        if (index >= all.size()) {
            return NONE;
        }
        int[] w = all.get(index).w;
        return w[0] * 10000 + w[1] * 100 + w[2];
    }

    private List<Integer> row(Order order, List<Integer> signs, int level) {
        List<Integer> row = new ArrayList<>();
        boolean isShifted = order.options[0];
        for (Element e : elements(order, signs)) {
            if (level == 4) {
                if (isShifted && e.kind != 'm') {
                    row.add(e.kind == 'b' ? e.w[0] : 100);
                }
            } else if (!(isShifted && e.kind != 'o') && (level > 1 || e.w[0] > 0)) {
                row.add(e.w[level - 1]);
            }
        }
        if (level == 2 && order.options[1]) {
            Collections.reverse(row);
        }
        return row;
    }

    private List<Integer> key(Order order, List<Integer> signs, int strength) {
        List<Integer> key = new ArrayList<>();
        for (int level = 1; level <= strength; level++) {
            List<Integer> row = row(order, signs, level);
            int i = 0;
            while (i < row.size()) {
                int w = row.get(i);
                if (level == 1 || level == 4) {
                    key.add(w + 1);
                    i++;
                } else if (w > 1) {
                    key.add(64 + w);
                    i++;
                } else {
                    int end = i;
                    while (end < row.size() && row.get(end) == 1) {
                        end++;
                    }
                    int n = end - i;
                    for (; n > 30; n -= 30) {
                        key.add(33);
                    }
                    key.add(end == row.size() ? n + 1 : 64 - n);
                    i = end;
                }
            }
            key.add(1);
        }
        return key;
    }

    int keyAt(int t, int strength, int text, int index) {
        tailoring(t);
        isText(text);
        range(index >= 0);
        argument(strength >= 1 && strength <= 4);
        List<Integer> key = key(orders[t], texts.get(text), strength);
        return index < key.size() ? key.get(index) : NONE;
    }

    private static int compareLists(List<Integer> one, List<Integer> other) {
        int[] a = one.stream().mapToInt(Integer::intValue).toArray();
        int[] b = other.stream().mapToInt(Integer::intValue).toArray();
        return Integer.signum(Arrays.compare(a, b));
    }

    private int compareSigns(Order order, int strength, List<Integer> one, List<Integer> other) {
        for (int level = 1; level <= strength; level++) {
            int c = compareLists(row(order, one, level), row(order, other, level));
            if (c != 0) {
                return c;
            }
        }
        return 0;
    }

    int compare(int t, int strength, int one, int other) {
        tailoring(t);
        isText(one);
        isText(other);
        argument(strength >= 1 && strength <= 4);
        return compareLists(key(orders[t], texts.get(one), strength), key(orders[t], texts.get(other), strength));
    }

    int compareByLevels(int t, int strength, int one, int other) {
        tailoring(t);
        isText(one);
        isText(other);
        argument(strength >= 1 && strength <= 4);
        return compareSigns(orders[t], strength, texts.get(one), texts.get(other));
    }

    int find(int t, int strength, int text, int what, int from) {
        tailoring(t);
        isText(text);
        isText(what);
        range(from >= 0);
        argument(strength >= 1 && strength <= 4);
        List<Integer> row = texts.get(text);
        List<Integer> edges = new ArrayList<>();
        for (int p = 0; p <= row.size(); p++) {
            final int place = p;
            boolean isCut = elements(orders[t], row).stream().anyMatch(e ->
                    e.taken.stream().anyMatch(q -> q < place) && e.taken.stream().anyMatch(q -> q >= place));
            if (!isCut && !(p < row.size() && mark(row.get(p)))) {
                edges.add(p);
            }
        }
        for (int begin : edges) {
            for (int end : edges) {
                if (begin >= from && begin < end
                        && compareSigns(orders[t], strength, row.subList(begin, end), texts.get(what)) == 0) {
                    return begin * 100 + end;
                }
            }
        }
        return NONE;
    }

    // ---- what is asked: indexes

    int entries() {
        return entries.size();
    }

    private List<Integer> sortForm(int entry) {
        Entry e = entries.get(entry);
        List<Integer> signs = texts.get(e.text);
        List<Integer> form = new ArrayList<>(signs.subList(e.n, signs.size()));
        if (e.kind == 2) {
            form.add(28);
            form.addAll(signs.subList(0, e.n));
        }
        return form;
    }

    private List<Integer> index(int k) {
        Comparator<Integer> bySortForm = (a, b) -> compareSigns(orders[k], 4, sortForm(a), sortForm(b));
        List<Integer> tops = new ArrayList<>();
        for (int e = 0; e < entries.size(); e++) {
            if (entries.get(e).parent == NONE && (entries.get(e).indexes >> k) % 2 == 1) {
                tops.add(e);
            }
        }
        tops.sort(bySortForm.thenComparing(Comparator.naturalOrder()));
        List<Integer> all = new ArrayList<>();
        for (int top : tops) {
            all.add(top);
            List<Integer> subs = new ArrayList<>();
            for (int e = 0; e < entries.size(); e++) {
                if (entries.get(e).parent == top) {
                    subs.add(e);
                }
            }
            subs.sort(bySortForm.thenComparing(Comparator.naturalOrder()));
            all.addAll(subs);
        }
        return all;
    }

    int entryAt(int k, int place) {
        tailoring(k);
        range(place >= 0 && place < index(k).size());
        return index(k).get(place);
    }

    int beneath(int k, int entry) {
        isOf(k, entry);
        if (entries.get(entry).parent != NONE) {
            return beneath(k, entries.get(entry).parent);
        }
        List<Integer> form = sortForm(entry);
        List<Integer> first = row(orders[k], form, 1);
        int best = NONE;
        if (!first.isEmpty()) {
            for (int letter : headings) {
                if (orders[k].place(List.of(letter)) < 0) {
                    continue;
                }
                int own = orders[k].weights(List.of(letter))[0];
                if (own <= first.get(0) && (best == NONE || own >= orders[k].weights(List.of(best))[0])) {
                    best = letter;
                }
            }
        }
        for (int s : form) {
            if (s < 24) {
                return best != NONE && (s % 12 >= 6) != (best >= 6) ? 100 + best : best;
            }
        }
        return best;
    }

    private List<int[]> groups(int entry) {
        List<int[]> all = new ArrayList<>();
        for (int sort : new int[] {1, 0, 2}) {
            List<int[]> own = new ArrayList<>();
            for (int page = 1; page <= 999; page++) {
                if (!entries.get(entry).locators.contains(List.of(page, sort))) {
                    continue;
                }
                if (!own.isEmpty() && own.get(own.size() - 1)[2] == page - 1) {
                    own.get(own.size() - 1)[2] = page;
                } else {
                    own.add(new int[] {sort, page, page});
                }
            }
            int i = 0;
            while (i < own.size()) {
                int end = i + 1;
                while (end < own.size() && own.get(end)[1] - own.get(i)[1] <= 9) {
                    end++;
                }
                if (sort == 0 && end - i >= 4) {
                    all.add(new int[] {3, own.get(i)[1], own.get(end - 1)[2]});
                    i = end;
                } else {
                    all.add(own.get(i));
                    i++;
                }
            }
        }
        return all;
    }

    int locatorAt(int entry, int group) {
        isEntry(entry);
        range(group >= 0);
        List<int[]> all = groups(entry);
        return group < all.size() ? all.get(group)[0] * 1000000 + all.get(group)[1] * 1000 + all.get(group)[2] : NONE;
    }

    int leads(int entry) {
        isEntry(entry);
        Set<Integer> met = new HashSet<>();
        int at = entry;
        while (at != NONE && met.add(at)) {
            for (int e = 0; e < entries.size(); e++) {
                if ((e == at || entries.get(e).parent == at) && !entries.get(e).locators.isEmpty()) {
                    return at;
                }
            }
            at = entries.get(at).sees;
        }
        return NONE;
    }

    int dead() {
        int count = 0;
        for (Entry e : entries) {
            if (e.sees != NONE && leads(e.sees) == NONE) {
                count++;
            }
            for (int target : e.also) {
                if (leads(target) == NONE) {
                    count++;
                }
            }
        }
        return count;
    }

    int moved(int k) {
        tailoring(k);
        int count = 0;
        for (int i = 0; i < orders[k].before.size(); i++) {
            if (!orders[k].before.get(i).equals(index(k).get(i))) {
                count++;
            }
        }
        return count;
    }

    /** Fills the columns line by line. */
    int columnOf(int k, int entry) {
        isOf(k, entry);
        List<Integer> lines = new ArrayList<>();
        Integer last = null;
        for (int e : index(k)) {
            Entry own = entries.get(e);
            boolean isSub = own.parent != NONE;
            int length = whole(texts.get(own.text)).size() + (own.kind == 2 ? 1 : 0) + 3 * groups(e).size()
                    + (own.sees != NONE ? 5 : 0) + 3 * own.also.size() + (isSub ? 2 : 0);
            int needs = length / width + (length % width > 0 ? 1 : 0);
            boolean isHeaded = false;
            if (!isSub) {
                int beneath = beneath(k, e);
                isHeaded = beneath != NONE && (last == null || last != beneath);
                last = beneath;
            }
            int all = needs + (isHeaded ? 1 : 0);
            int used = lines.size() % height;
            boolean isFull = !lines.isEmpty() && used == 0;
            int left = isFull || lines.isEmpty() ? height : height - used;
            if (used > 0 && (left < all && all + (isSub ? 1 : 0) <= height || left == 1 && isHeaded)) {
                while (lines.size() % height > 0) {
                    lines.add(NONE);
                }
            }
            if (isHeaded || isSub && lines.size() % height == 0) {
                lines.add(NONE);
            }
            for (int i = 0; i < needs; i++) {
                lines.add(e);
            }
        }
        int at = lines.indexOf(entry);
        return at / height * 100 + at % height;
    }

    int lineAt(int lemma, boolean isLeft, int line) {
        isText(lemma);
        List<Integer> own = new ArrayList<>();
        for (int w = 0; w < words.size(); w++) {
            int text = words.get(w)[0];
            int as = words.get(w)[1];
            boolean belongs = as != NONE ? as == lemma
                    : readingsOf(text).isEmpty() ? text == lemma : readingsOf(text).contains(lemma);
            if (belongs) {
                own.add(w);
            }
        }
        range(line >= 0 && line < own.size());
        Comparator<Integer> first = (a, b) -> neighbours(a, b, isLeft ? -1 : 1);
        Comparator<Integer> second = (a, b) -> neighbours(a, b, isLeft ? -2 : 2);
        own.sort(first.thenComparing(second).thenComparing(Comparator.naturalOrder()));
        return own.get(line);
    }

    private int neighbours(int a, int b, int step) {
        List<Integer> one = neighbour(a + step);
        List<Integer> other = neighbour(b + step);
        if (one == null || other == null) {
            return one == other ? 0 : one == null ? -1 : 1;
        }
        return compareSigns(orders[0], 3, one, other);
    }

    private List<Integer> neighbour(int word) {
        return word < 0 || word >= words.size() ? null : texts.get(words.get(word)[0]);
    }
}
