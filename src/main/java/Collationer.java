/**
 * A maker of concordances and indexes.
 *
 * All rows are made when the object is made and used again, because the calls of one run share one
 * room: no call of the face makes an object or an array.
 */
public final class Collationer {
    public static final int NONE = -1;

    private static final int LETTERS = 12;
    private static final int LETTERS_OF_A_SCRIPT = 6;
    private static final int FIRST_MARK = 24;
    private static final int BLANK = 28;
    private static final int DASH = 29;
    private static final int FIRST_DIGIT = 30;
    private static final int FIRST_COMPOSED = 40;
    private static final int SIGNS = 48;
    private static final int[] MARK_CLASSES = {1, 1, 2, 3};

    private static final int TEXTS = 30;
    private static final int DRAFT_SIGNS = 10;
    /** A composed sign has up to two marks, so that it is three signs apart. */
    private static final int APART_SIGNS = 3 * DRAFT_SIGNS;
    /** An entry that is turned sorts with one blank more. */
    private static final int FORM_SIGNS = APART_SIGNS + 1;
    /** A sign has at most three elements: a number of one digit, or a sign that sorts as three. */
    private static final int ELEMENTS = 3 * FORM_SIGNS;
    /** On each level at most one byte a weight, and the one behind them. */
    private static final int KEY_BYTES = 4 * (ELEMENTS + 1);

    private static final int TAILORINGS = 3;
    private static final int RULES = 12;
    private static final int FIRST_ITEMS = 36;
    private static final int ITEMS = FIRST_ITEMS + RULES;
    private static final int ITEM_SIGNS = 3;
    private static final int CODE_BASE = 100;
    private static final int SAME = 0;
    private static final int FIRST_AHEAD = 4;
    private static final int SEVERAL = 7;
    private static final int SHIFTED = 0;
    private static final int BACKWARD = 1;
    private static final int BY_VALUE = 2;
    private static final int OPTIONS = 3;

    private static final int KIND_OTHER = 0;
    private static final int KIND_BLANK = 1;
    private static final int KIND_BEHIND_BLANK = 2;
    private static final int WEIGHT_OF_OTHERS = 100;
    private static final int STRENGTHS = 4;

    private static final int ENTRIES = 24;
    private static final int ALL_INDEXES = 7;
    private static final int OVERFLOW = 100;
    private static final int FORM_PARTICLE = 1;
    private static final int FORM_TURNED = 2;

    private static final int LOCATORS = 10;
    private static final int LAST_PAGE = 999;
    private static final int PAGE_BASE = 1000;
    private static final int PLAIN = 0;
    private static final int NOTE = 2;
    private static final int PASSIM = 3;
    private static final int PASSIM_PAGES = 9;
    private static final int PASSIM_GROUPS = 4;

    private static final int WORDS = 30;
    private static final int READINGS = 3;
    private static final int PINS = 6;
    private static final int LEAST_SIDE = 4;
    private static final int GREATEST_SIDE = 40;

    private final Compositions compositions = new Compositions();
    private final Row draft = new Row(DRAFT_SIGNS);
    private final Row ruleAnchor = new Row(APART_SIGNS);
    private final Row[] apartTexts = new Row[TEXTS];
    private int textCount;
    private final Tailoring[] tailorings = new Tailoring[TAILORINGS];
    private final Tailoring trial = new Tailoring();
    private final boolean[] isHeading = new boolean[LETTERS];
    private final Entry[] allEntries = new Entry[ENTRIES];
    private int entryCount;
    private final Index[] orders = new Index[TAILORINGS];
    private final Corpus corpus = new Corpus();
    private final Pins pins = new Pins();
    private int columnWidth = 12;
    private int columnHeight = 10;
    private final Collator collator = new Collator();
    private final Row[] keys = new Row[TEXTS];
    private final Row signRow = new Row(FORM_SIGNS);
    private final Row orderRow = new Row(WORDS);
    private final Groups groups = new Groups();

    public Collationer() {
        for (int i = 0; i < TEXTS; i++) {
            apartTexts[i] = new Row(APART_SIGNS);
            keys[i] = new Row(KEY_BYTES);
        }
        for (int i = 0; i < TAILORINGS; i++) {
            tailorings[i] = new Tailoring();
            orders[i] = new Index();
        }
        for (int i = 0; i < ENTRIES; i++) {
            allEntries[i] = new Entry();
        }
    }

    // ---- signs and texts

    public int sign(int sign)
            throws IndexOutOfBoundsException, IllegalStateException {
        if (!isThere(sign)) {
            throw new IndexOutOfBoundsException("no such sign");
        }
        if (draft.size() >= DRAFT_SIGNS) {
            throw new IllegalStateException("the draft is full");
        }
        draft.put(sign);
        return draft.size();
    }

    public int compose(int sign, int base, int mark)
            throws IndexOutOfBoundsException, IllegalStateException {
        if (sign < FIRST_COMPOSED || sign >= SIGNS || !compositions.canBeBase(base) || !isMark(mark)) {
            throw new IndexOutOfBoundsException("no such sign, base or mark");
        }
        if (compositions.has(sign) || compositions.composedOf(base, mark) != NONE) {
            throw new IllegalStateException("composed already");
        }
        compositions.tell(sign, base, mark);
        return compositions.count();
    }

    public int text()
            throws IllegalStateException {
        if (draft.isEmpty() || textCount >= TEXTS) {
            throw new IllegalStateException("no draft, or too many texts");
        }
        compositions.takeApart(draft, textNumbered(textCount));
        draft.clear();
        textCount++;
        return textCount - 1;
    }

    public int wipe() {
        int had = draft.size();
        draft.clear();
        return had;
    }

    // ---- tailorings

    public int anchor()
            throws IllegalStateException {
        if (draft.isEmpty()) {
            throw new IllegalStateException("no draft");
        }
        compositions.takeApart(draft, ruleAnchor);
        draft.clear();
        return ruleAnchor.size();
    }

    public int rule(int tailoring, int how)
            throws IndexOutOfBoundsException, IllegalArgumentException, IllegalStateException {
        if (!isTailoring(tailoring)) {
            throw new IndexOutOfBoundsException("no such tailoring");
        }
        if (how < SAME || how > SEVERAL) {
            throw new IllegalArgumentException("no such rule");
        }
        Tailoring order = tailorings[tailoring];
        compositions.takeApart(draft, signRow);
        int anchorCode = codeOf(ruleAnchor, 0, ruleAnchor.size());
        int itemCode = codeOf(signRow, 0, signRow.size());
        if (!order.canTell(how, anchorCode, itemCode)) {
            throw new IllegalStateException("the rule is not possible");
        }
        orders[tailoring].remember(orderOf(tailoring));
        order.tell(how, anchorCode, itemCode);
        ruleAnchor.clear();
        draft.clear();
        return order.ruleCount();
    }

    public int adopt(int to, int from)
            throws IndexOutOfBoundsException, IllegalArgumentException, IllegalStateException {
        if (!isTailoring(to) || !isTailoring(from)) {
            throw new IndexOutOfBoundsException("no such tailoring");
        }
        if (to == from) {
            throw new IllegalArgumentException("both are the same");
        }
        trial.copyRules(tailorings[to]);
        if (!trial.tellAll(tailorings[from])) {
            throw new IllegalStateException("a rule is not possible");
        }
        orders[to].remember(orderOf(to));
        tailorings[to].copyRules(trial);
        return tailorings[to].ruleCount();
    }

    public boolean option(int tailoring, int what, boolean isOn)
            throws IndexOutOfBoundsException {
        if (!isTailoring(tailoring) || what < 0 || what >= OPTIONS) {
            throw new IndexOutOfBoundsException("no such tailoring or option");
        }
        orders[tailoring].remember(orderOf(tailoring));
        boolean was = tailorings[tailoring].hasOption(what);
        tailorings[tailoring].setOption(what, isOn);
        return was;
    }

    // ---- entries

    public int heading(int letter, boolean isOn)
            throws IndexOutOfBoundsException {
        if (letter < 0 || letter >= LETTERS) {
            throw new IndexOutOfBoundsException("no such letter");
        }
        isHeading[letter] = isOn;
        int count = 0;
        for (int i = 0; i < LETTERS; i++) {
            count += isHeading[i] ? 1 : 0;
        }
        return count;
    }

    public int entry(int parent, int text, int indexes)
            throws IndexOutOfBoundsException, IllegalArgumentException, IllegalStateException {
        if ((parent != NONE && !hasEntry(parent)) || !hasText(text)) {
            throw new IndexOutOfBoundsException("no such entry or text");
        }
        if (indexes < 1 || indexes > ALL_INDEXES) {
            throw new IllegalArgumentException("no such indexes");
        }
        if ((parent != NONE && entryNumbered(parent).hasParent()) || entryCount >= ENTRIES) {
            throw new IllegalStateException("the parent has one, or too many entries");
        }
        int set = parent == NONE ? indexes : entryNumbered(parent).indexSet();
        entryNumbered(entryCount).begin(text, parent, set);
        entryCount++;
        forgetOrders();
        return entryCount - 1;
    }

    public int form(int entry, int kind, int n)
            throws IndexOutOfBoundsException, IllegalArgumentException {
        if (!hasEntry(entry)) {
            throw new IndexOutOfBoundsException("no such entry");
        }
        Entry formed = entryNumbered(entry);
        boolean isPossible = kind == FORM_PARTICLE || kind == FORM_TURNED
                ? n >= 1 && n < textNumbered(formed.textNumber()).size()
                : kind == 0 && n == 0;
        if (!isPossible) {
            throw new IllegalArgumentException("no such form");
        }
        int had = formed.formKind();
        formed.setForm(kind, n);
        forgetOrders();
        return had;
    }

    public boolean locate(int entry, int page, int sort)
            throws IndexOutOfBoundsException, IllegalArgumentException, IllegalStateException {
        if (!hasEntry(entry)) {
            throw new IndexOutOfBoundsException("no such entry");
        }
        if (!isPage(page) || sort < PLAIN || sort > NOTE) {
            throw new IllegalArgumentException("no such page or sort");
        }
        Entry located = entryNumbered(entry);
        if (located.hasLocator(page, sort)) {
            return false;
        }
        if (located.locators().size() >= LOCATORS) {
            throw new IllegalStateException("too many locators");
        }
        located.addLocator(page, sort);
        return true;
    }

    public boolean see(int entry, int target, boolean isAlso)
            throws IndexOutOfBoundsException, IllegalArgumentException, IllegalStateException {
        if (!hasEntry(entry) || !hasEntry(target)) {
            throw new IndexOutOfBoundsException("no such entry");
        }
        if (entry == target) {
            throw new IllegalArgumentException("both are the same");
        }
        Entry seeing = entryNumbered(entry);
        if (!isAlso && seeing.seen() != NONE && seeing.seen() != target) {
            throw new IllegalStateException("it sees a third one");
        }
        boolean isNew = isAlso ? !seeing.seesAlso(target) : seeing.seen() == NONE;
        seeing.addReference(target, isAlso);
        return isNew;
    }

    // ---- words, editions, columns

    public int word(int text)
            throws IndexOutOfBoundsException, IllegalStateException {
        if (!hasText(text)) {
            throw new IndexOutOfBoundsException("no such text");
        }
        if (corpus.wordCount() >= WORDS) {
            throw new IllegalStateException("too many words");
        }
        corpus.addWord(text);
        return corpus.wordCount() - 1;
    }

    public int reading(int text, int lemma)
            throws IndexOutOfBoundsException, IllegalStateException {
        if (!hasText(text) || !hasText(lemma)) {
            throw new IndexOutOfBoundsException("no such text");
        }
        Row lemmas = corpus.readingsOf(text);
        if (lemmas.has(lemma) || lemmas.size() >= READINGS) {
            throw new IllegalStateException("it has this reading, or too many");
        }
        lemmas.put(lemma);
        return lemmas.size();
    }

    public int read(int word, int lemma)
            throws IndexOutOfBoundsException, IllegalArgumentException {
        if (!corpus.hasWord(word)) {
            throw new IndexOutOfBoundsException("no such word");
        }
        if (lemma != NONE && !corpus.readingsOf(corpus.textOf(word)).has(lemma)) {
            throw new IllegalArgumentException("no reading of its text");
        }
        int was = corpus.readAs(word);
        corpus.setRead(word, lemma);
        return was;
    }

    public int pin(int page, int next)
            throws IllegalArgumentException, IllegalStateException {
        if (!isPage(page) || !isPage(next) || !pins.isAboveLast(page, next)) {
            throw new IllegalArgumentException("no such page, or not above the last pin");
        }
        if (pins.count() >= PINS) {
            throw new IllegalStateException("too many pins");
        }
        pins.add(page, next);
        return pins.count();
    }

    public int edition()
            throws IllegalStateException {
        if (pins.count() < 2) {
            throw new IllegalStateException("too few pins");
        }
        int lost = 0;
        for (int i = 0; i < entryCount; i++) {
            lost += entryNumbered(i).moveLocators(pins);
        }
        pins.clear();
        return lost;
    }

    public int columns(int width, int height)
            throws IllegalArgumentException {
        if (!isSide(width) || !isSide(height)) {
            throw new IllegalArgumentException("no such width or height");
        }
        int had = columnWidth;
        columnWidth = width;
        columnHeight = height;
        return had;
    }

    // ---- what is asked: texts and orders

    public int texts() {
        return textCount;
    }

    public int signAt(int text, boolean isApart, int index)
            throws IndexOutOfBoundsException {
        if (!hasText(text) || index < 0) {
            throw new IndexOutOfBoundsException("no such text or index");
        }
        if (isApart) {
            return textNumbered(text).at(index);
        }
        compositions.putTogether(textNumbered(text), signRow);
        return signRow.at(index);
    }

    public int rules(int tailoring)
            throws IndexOutOfBoundsException {
        if (!isTailoring(tailoring)) {
            throw new IndexOutOfBoundsException("no such tailoring");
        }
        return tailorings[tailoring].ruleCount();
    }

    public int itemAt(int tailoring, int index)
            throws IndexOutOfBoundsException {
        if (!isTailoring(tailoring) || index < 0 || index >= tailorings[tailoring].itemCount()) {
            throw new IndexOutOfBoundsException("no such tailoring or item");
        }
        return tailorings[tailoring].levelAndItem(index);
    }

    public int element(int tailoring, int text, int index)
            throws IndexOutOfBoundsException {
        if (!isTailoring(tailoring) || !hasText(text) || index < 0) {
            throw new IndexOutOfBoundsException("no such tailoring, text or index");
        }
        return collator.weightsAt(tailorings[tailoring], textNumbered(text), index);
    }

    public int keyAt(int tailoring, int strength, int text, int index)
            throws IndexOutOfBoundsException, IllegalArgumentException {
        if (!isTailoring(tailoring) || !hasText(text) || index < 0) {
            throw new IndexOutOfBoundsException("no such tailoring, text or index");
        }
        if (!isStrength(strength)) {
            throw new IllegalArgumentException("no such strength");
        }
        return collator.byteAt(tailorings[tailoring], strength, textNumbered(text), index);
    }

    public int compare(int tailoring, int strength, int one, int other)
            throws IndexOutOfBoundsException, IllegalArgumentException {
        if (!isTailoring(tailoring) || !hasText(one) || !hasText(other)) {
            throw new IndexOutOfBoundsException("no such tailoring or text");
        }
        if (!isStrength(strength)) {
            throw new IllegalArgumentException("no such strength");
        }
        return collator.compareByKeys(tailorings[tailoring], strength, textNumbered(one), textNumbered(other));
    }

    public int compareByLevels(int tailoring, int strength, int one, int other)
            throws IndexOutOfBoundsException, IllegalArgumentException {
        if (!isTailoring(tailoring) || !hasText(one) || !hasText(other)) {
            throw new IndexOutOfBoundsException("no such tailoring or text");
        }
        if (!isStrength(strength)) {
            throw new IllegalArgumentException("no such strength");
        }
        return collator.compareByRows(tailorings[tailoring], strength, textNumbered(one), textNumbered(other));
    }

    public int find(int tailoring, int strength, int text, int what, int from)
            throws IndexOutOfBoundsException, IllegalArgumentException {
        if (!isTailoring(tailoring) || !hasText(text) || !hasText(what) || from < 0) {
            throw new IndexOutOfBoundsException("no such tailoring, text or place");
        }
        if (!isStrength(strength)) {
            throw new IllegalArgumentException("no such strength");
        }
        return collator.seek(tailorings[tailoring], strength, textNumbered(text), textNumbered(what), from);
    }

    // ---- what is asked: indexes

    public int entries() {
        return entryCount;
    }

    public int entryAt(int index, int place)
            throws IndexOutOfBoundsException {
        if (!isTailoring(index) || place < 0 || place >= orderOf(index).size()) {
            throw new IndexOutOfBoundsException("no such index or place");
        }
        return orderOf(index).at(place);
    }

    public int beneath(int index, int entry)
            throws IndexOutOfBoundsException {
        if (!isInIndex(index, entry)) {
            throw new IndexOutOfBoundsException("no such index, or entry in it");
        }
        orderOf(index);
        return headingAbove(index, entry);
    }

    public int locatorAt(int entry, int group)
            throws IndexOutOfBoundsException {
        if (!hasEntry(entry) || group < 0) {
            throw new IndexOutOfBoundsException("no such entry or group");
        }
        groups.gather(entryNumbered(entry).locators());
        return groups.asNumber(group);
    }

    public int leads(int entry)
            throws IndexOutOfBoundsException {
        if (!hasEntry(entry)) {
            throw new IndexOutOfBoundsException("no such entry");
        }
        return endOfReferences(entry);
    }

    public int dead() {
        int count = 0;
        for (int target = 0; target < entryCount; target++) {
            if (endOfReferences(target) == NONE) {
                count += referencesTo(target);
            }
        }
        return count;
    }

    public int moved(int index)
            throws IndexOutOfBoundsException {
        if (!isTailoring(index)) {
            throw new IndexOutOfBoundsException("no such index");
        }
        Row now = orderOf(index);
        Row before = orders[index].before();
        int count = 0;
        for (int place = 0; place < before.size(); place++) {
            count += now.at(place) != before.at(place) ? 1 : 0;
        }
        return count;
    }

    public int columnOf(int index, int entry)
            throws IndexOutOfBoundsException {
        if (!isInIndex(index, entry)) {
            throw new IndexOutOfBoundsException("no such index, or entry in it");
        }
        return lineInColumns(index, orderOf(index), entry);
    }

    public int lineAt(int lemma, boolean isLeft, int line)
            throws IndexOutOfBoundsException {
        if (!hasText(lemma) || line < 0 || line >= corpus.countOf(lemma)) {
            throw new IndexOutOfBoundsException("no such text or line");
        }
        orderLines(lemma, isLeft);
        return orderRow.at(line);
    }

    // ---- what is there

    private boolean isThere(int sign) {
        return sign >= 0 && sign < FIRST_COMPOSED || compositions.has(sign);
    }

    private boolean hasText(int text) {
        return text >= 0 && text < textCount;
    }

    private boolean hasEntry(int entry) {
        return entry >= 0 && entry < entryCount;
    }

    private boolean isInIndex(int index, int entry) {
        return isTailoring(index) && hasEntry(entry) && entryNumbered(entry).isIn(index);
    }

    private Row textNumbered(int text) {
        return apartTexts[text >= 0 && text < TEXTS ? text : 0];
    }

    private Row keyNumbered(int number) {
        return keys[number >= 0 && number < TEXTS ? number : 0];
    }

    private Entry entryNumbered(int entry) {
        return allEntries[entry >= 0 && entry < ENTRIES ? entry : 0];
    }

    private Tailoring tailoringNumbered(int tailoring) {
        return tailorings[isTailoring(tailoring) ? tailoring : 0];
    }

    private Index indexNumbered(int index) {
        return orders[isTailoring(index) ? index : 0];
    }

    private static boolean isTailoring(int tailoring) {
        return tailoring >= 0 && tailoring < TAILORINGS;
    }

    private static boolean isStrength(int strength) {
        return strength >= 1 && strength <= STRENGTHS;
    }

    private static boolean isPage(int page) {
        return page >= 1 && page <= LAST_PAGE;
    }

    private static boolean isSide(int side) {
        return side >= LEAST_SIDE && side <= GREATEST_SIDE;
    }

    // ---- signs

    private static boolean isLetter(int sign) {
        return sign >= 0 && sign < FIRST_MARK;
    }

    private static boolean isMark(int sign) {
        return sign >= FIRST_MARK && sign < BLANK;
    }

    private static boolean isBlank(int sign) {
        return sign == BLANK || sign == DASH;
    }

    private static boolean isDigit(int sign) {
        return sign >= FIRST_DIGIT && sign < FIRST_COMPOSED;
    }

    private static int classOf(int mark) {
        return isMark(mark) ? MARK_CLASSES[mark - FIRST_MARK] : 0;
    }

    private static int scriptOf(int letter) {
        return letter % LETTERS / LETTERS_OF_A_SCRIPT;
    }

    // ---- items: a row of one to three signs is one number, its code, as itemAt() tells it

    /** NONE for a row that can't be an item, by its length. */
    private static int codeOf(Row row, int from, int to) {
        if (to <= from || to - from > ITEM_SIGNS || to > row.size()) {
            return NONE;
        }
        int code = 0;
        for (int i = from; i < to; i++) {
            code = code * CODE_BASE + row.at(i) + 1;
        }
        return code;
    }

    private static int codeOfSign(int sign) {
        return sign + 1;
    }

    private static int signsIn(int code) {
        if (code <= 0) {
            return 0;
        }
        return code < CODE_BASE ? 1 : code < CODE_BASE * CODE_BASE ? 2 : ITEM_SIGNS;
    }

    private static int signIn(int code, int place) {
        int rest = code;
        for (int i = signsIn(code) - 1; i > place; i--) {
            rest /= CODE_BASE;
        }
        return rest % CODE_BASE - 1;
    }

    // ---- the order of an index

    private Row orderOf(int index) {
        Index asked = indexNumbered(index);
        if (asked.isOrdered()) {
            return asked.order();
        }
        orderRow.clear();
        asked.begin();
        for (int i = 0; i < entryCount; i++) {
            putForm(entryNumbered(i), signRow);
            collator.putKey(tailoringNumbered(index), STRENGTHS, signRow, keyNumbered(i));
            asked.addFirstWeight(Collator.firstWeightIn(keyNumbered(i)));
            if (entryNumbered(i).isIn(index) && !entryNumbered(i).hasParent()) {
                insertByKey(orderRow, 0, i);
            }
        }
        for (int i = 0; i < orderRow.size(); i++) {
            asked.order().put(orderRow.at(i));
            putSubEntries(orderRow.at(i), asked.order());
        }
        return asked.order();
    }

    private void forgetOrders() {
        for (int i = 0; i < TAILORINGS; i++) {
            indexNumbered(i).forget();
        }
    }

    private void putSubEntries(int parent, Row order) {
        int from = order.size();
        for (int i = 0; i < entryCount; i++) {
            if (entryNumbered(i).parent() == parent) {
                insertByKey(order, from, i);
            }
        }
    }

    /** Behind those with the same key: as entries come by rising numbers, these decide then. */
    private void insertByKey(Row order, int from, int entry) {
        int place = order.size();
        while (place > from && compareRows(keyNumbered(order.at(place - 1)), keyNumbered(entry)) > 0) {
            place--;
        }
        order.insert(place, entry);
    }

    private static int compareRows(Row one, Row other) {
        int both = Math.min(one.size(), other.size());
        for (int i = 0; i < both; i++) {
            if (one.at(i) != other.at(i)) {
                return one.at(i) < other.at(i) ? -1 : 1;
            }
        }
        return Integer.compare(one.size(), other.size());
    }

    private void putForm(Entry entry, Row form) {
        Row text = textNumbered(entry.textNumber());
        form.clear();
        form.append(text, entry.formSigns(), text.size());
        if (entry.isTurned()) {
            form.put(BLANK);
            form.append(text, 0, entry.formSigns());
        }
    }

    // ---- headings

    /** Asks for an index that is in order. */
    private int headingAbove(int index, int entry) {
        int parent = entryNumbered(entry).parent();
        int top = parent == NONE ? entry : parent;
        int heading = headingFor(tailoringNumbered(index), indexNumbered(index).firstWeightOf(top));
        putForm(entryNumbered(top), signRow);
        int letter = firstLetter(signRow);
        if (heading == NONE || letter == NONE || scriptOf(letter) == scriptOf(heading)) {
            return heading;
        }
        return OVERFLOW + heading;
    }

    private int headingFor(Tailoring tailoring, int weight) {
        int heading = NONE;
        int greatest = 1;
        for (int letter = 0; letter < LETTERS; letter++) {
            int own = isHeading[letter] ? tailoring.firstWeightOf(codeOfSign(letter)) : 0;
            if (own >= greatest && own <= weight) {
                greatest = own;
                heading = letter;
            }
        }
        return heading;
    }

    private static int firstLetter(Row signs) {
        for (int i = 0; i < signs.size(); i++) {
            if (isLetter(signs.at(i))) {
                return signs.at(i);
            }
        }
        return NONE;
    }

    // ---- references

    private int endOfReferences(int entry) {
        int end = entry;
        for (int steps = 0; steps <= entryCount && end != NONE; steps++) {
            if (isLocated(end)) {
                return end;
            }
            end = entryNumbered(end).seen();
        }
        return NONE;
    }

    private boolean isLocated(int entry) {
        for (int i = 0; i < entryCount; i++) {
            boolean isOwn = i == entry || entryNumbered(i).parent() == entry;
            if (isOwn && !entryNumbered(i).locators().isEmpty()) {
                return true;
            }
        }
        return false;
    }

    private int referencesTo(int target) {
        int count = 0;
        for (int i = 0; i < entryCount; i++) {
            count += entryNumbered(i).seen() == target ? 1 : 0;
            count += entryNumbered(i).seesAlso(target) ? 1 : 0;
        }
        return count;
    }

    // ---- columns

    private int lineInColumns(int index, Row order, int entry) {
        int column = 0;
        int used = 0;
        int above = NONE;
        for (int i = 0; i < order.size(); i++) {
            int own = order.at(i);
            boolean isSub = entryNumbered(own).hasParent();
            int beneath = isSub ? above : headingAbove(index, own);
            boolean isHeaded = !isSub && beneath != NONE && (i == 0 || beneath != above);
            above = beneath;
            int lines = linesOf(entryNumbered(own));
            if (needsNewColumn(used, isHeaded ? lines + 1 : lines, isSub, isHeaded)) {
                column++;
                used = 0;
            }
            used += isHeaded || isSub && used == 0 ? 1 : 0;
            if (own == entry) {
                return CODE_BASE * column + used;
            }
            used += lines;
            int full = used > columnHeight ? (used - 1) / Math.max(columnHeight, 1) : 0;
            column += full;
            used -= full * columnHeight;
        }
        return NONE;
    }

    private boolean needsNewColumn(int used, int lines, boolean isSub, boolean isHeaded) {
        int left = columnHeight - used;
        int whole = isSub ? lines + 1 : lines;
        return used > 0 && (left == 0 || left < lines && whole <= columnHeight || left == 1 && isHeaded);
    }

    private int linesOf(Entry entry) {
        compositions.putTogether(textNumbered(entry.textNumber()), signRow);
        groups.gather(entry.locators());
        int length = signRow.size() + 3 * groups.count() + 3 * entry.alsoCount();
        length += entry.isTurned() ? 1 : 0;
        length += entry.seen() != NONE ? 5 : 0;
        length += entry.hasParent() ? 2 : 0;
        return (length + columnWidth - 1) / Math.max(columnWidth, 1);
    }

    // ---- lines in context

    private void orderLines(int lemma, boolean isLeft) {
        for (int i = 0; i < textCount; i++) {
            collator.putKey(tailorings[0], 3, textNumbered(i), keyNumbered(i));
        }
        orderRow.clear();
        for (int word = 0; word < corpus.wordCount(); word++) {
            if (corpus.isOf(word, lemma)) {
                insertByNeighbours(word, isLeft ? -1 : 1);
            }
        }
    }

    /** Behind those that are the same: as words come by rising numbers, these decide then. */
    private void insertByNeighbours(int word, int step) {
        int place = orderRow.size();
        while (place > 0 && compareNeighbours(orderRow.at(place - 1), word, step) > 0) {
            place--;
        }
        orderRow.insert(place, word);
    }

    private int compareNeighbours(int one, int other, int step) {
        int first = compareWords(one + step, other + step);
        return first != 0 ? first : compareWords(one + 2 * step, other + 2 * step);
    }

    private int compareWords(int one, int other) {
        if (!corpus.hasWord(one) || !corpus.hasWord(other)) {
            return (corpus.hasWord(one) ? 1 : 0) - (corpus.hasWord(other) ? 1 : 0);
        }
        return compareRows(keyNumbered(corpus.textOf(one)), keyNumbered(corpus.textOf(other)));
    }

    /** A row of numbers with a bound: outside of it there is NONE, and what it has no room for is left out. */
    private static final class Row {
        private final int[] cells;
        private int size;

        Row(int room) {
            cells = new int[Math.max(room, 0)];
        }

        int size() {
            return size;
        }

        boolean isEmpty() {
            return size == 0;
        }

        int at(int index) {
            return index >= 0 && index < size ? cells[index] : NONE;
        }

        void set(int index, int value) {
            if (index >= 0 && index < size) {
                cells[index] = value;
            }
        }

        void put(int value) {
            if (size < cells.length) {
                cells[size] = value;
                size++;
            }
        }

        void insert(int index, int value) {
            if (index < 0 || index > size || size >= cells.length) {
                return;
            }
            for (int i = size; i > index; i--) {
                cells[i] = cells[i - 1];
            }
            cells[index] = value;
            size++;
        }

        void removeAt(int index) {
            if (index < 0 || index >= size) {
                return;
            }
            for (int i = index; i < size - 1; i++) {
                cells[i] = cells[i + 1];
            }
            size--;
        }

        void clear() {
            size = 0;
        }

        void append(Row other, int from, int to) {
            for (int i = Math.max(from, 0); i < to && i < other.size(); i++) {
                put(other.at(i));
            }
        }

        void copy(Row other) {
            clear();
            append(other, 0, other.size());
        }

        int placeOf(int value) {
            for (int i = 0; i < size; i++) {
                if (cells[i] == value) {
                    return i;
                }
            }
            return NONE;
        }

        boolean has(int value) {
            return placeOf(value) != NONE;
        }
    }

    /** Of what composed signs are composed. */
    private static final class Compositions {
        private final int[] bases = new int[SIGNS];
        private final int[] marks = new int[SIGNS];
        private int count;

        Compositions() {
            for (int i = 0; i < SIGNS; i++) {
                bases[i] = NONE;
                marks[i] = NONE;
            }
        }

        int count() {
            return count;
        }

        boolean has(int sign) {
            return baseOf(sign) != NONE;
        }

        private int baseOf(int sign) {
            return sign >= 0 && sign < SIGNS ? bases[sign] : NONE;
        }

        private int markOf(int sign) {
            return sign >= 0 && sign < SIGNS ? marks[sign] : NONE;
        }

        boolean canBeBase(int sign) {
            return isLetter(sign) || isLetter(baseOf(sign));
        }

        void tell(int sign, int base, int mark) {
            if (sign >= 0 && sign < SIGNS) {
                bases[sign] = base;
                marks[sign] = mark;
                count++;
            }
        }

        int composedOf(int base, int mark) {
            for (int sign = FIRST_COMPOSED; sign < SIGNS; sign++) {
                if (bases[sign] == base && marks[sign] == mark) {
                    return sign;
                }
            }
            return NONE;
        }

        void takeApart(Row signs, Row apart) {
            apart.clear();
            for (int i = 0; i < signs.size(); i++) {
                putApart(signs.at(i), apart);
            }
            for (int i = 1; i < apart.size(); i++) {
                sinkMark(apart, i);
            }
        }

        /** The base of a base is never composed. */
        private void putApart(int sign, Row apart) {
            int base = has(sign) ? baseOf(sign) : sign;
            apart.put(has(base) ? baseOf(base) : base);
            if (has(base)) {
                apart.put(markOf(base));
            }
            if (has(sign)) {
                apart.put(markOf(sign));
            }
        }

        private static void sinkMark(Row apart, int from) {
            int mark = apart.at(from);
            int place = from;
            while (place > 0 && isMark(mark) && classOf(apart.at(place - 1)) > classOf(mark)) {
                apart.set(place, apart.at(place - 1));
                place--;
            }
            apart.set(place, mark);
        }

        void putTogether(Row apart, Row whole) {
            whole.clear();
            int bearer = NONE;
            int classLeft = 0;
            for (int i = 0; i < apart.size(); i++) {
                int sign = apart.at(i);
                boolean isBlocked = bearer == NONE || classOf(sign) <= classLeft;
                int composed = isMark(sign) && !isBlocked ? composedOf(whole.at(bearer), sign) : NONE;
                if (composed != NONE) {
                    whole.set(bearer, composed);
                } else {
                    whole.put(sign);
                    classLeft = isMark(sign) ? Math.max(classLeft, classOf(sign)) : 0;
                }
                if (!isMark(sign)) {
                    bearer = isLetter(sign) ? whole.size() - 1 : NONE;
                }
            }
        }
    }

    /** An order list with its weights, what sorts as several, the rules that made both, and how it goes. */
    private static final class Tailoring {
        private final Row items = new Row(ITEMS);
        private final Row levels = new Row(ITEMS);
        private final Row firsts = new Row(ITEMS);
        private final Row seconds = new Row(ITEMS);
        private final Row thirds = new Row(ITEMS);
        private final Row severalItems = new Row(RULES);
        private final Row severalSigns = new Row(RULES);
        private final Row hows = new Row(RULES);
        private final Row anchorCodes = new Row(RULES);
        private final Row itemCodes = new Row(RULES);
        private final boolean[] options = new boolean[OPTIONS];

        Tailoring() {
            for (int sign = BLANK; sign < FIRST_COMPOSED; sign++) {
                addItem(sign, 1);
            }
            for (int letter = 0; letter < LETTERS; letter++) {
                addItem(letter, 1);
                addItem(letter + LETTERS, 3);
            }
            weigh();
        }

        private void addItem(int sign, int level) {
            items.put(codeOfSign(sign));
            levels.put(level);
        }

        private void weigh() {
            firsts.clear();
            seconds.clear();
            thirds.clear();
            int first = 0;
            int second = 1;
            int third = 1;
            for (int i = 0; i < items.size(); i++) {
                int level = levels.at(i);
                first += level == 1 ? 1 : 0;
                second = level == 1 ? 1 : level == 2 ? second + 1 : second;
                third = level <= 2 ? 1 : level == 3 ? third + 1 : third;
                firsts.put(first);
                seconds.put(second);
                thirds.put(third);
            }
        }

        boolean hasOption(int what) {
            return what >= 0 && what < OPTIONS && options[what];
        }

        void setOption(int what, boolean isOn) {
            if (what >= 0 && what < OPTIONS) {
                options[what] = isOn;
            }
        }

        int itemCount() {
            return items.size();
        }

        int ruleCount() {
            return hows.size();
        }

        int levelAndItem(int index) {
            return 1000000 * levels.at(index) + items.at(index);
        }

        boolean knows(int code) {
            return items.placeOf(code) != NONE || severalItems.placeOf(code) != NONE;
        }

        /** 0 for what is not in the list. */
        int firstWeightOf(int code) {
            return Math.max(firsts.at(items.placeOf(code)), 0);
        }

        void putWeights(int code, Elements elements) {
            int several = severalItems.placeOf(code);
            int signs = severalSigns.at(several);
            int count = several == NONE ? 1 : signsIn(signs);
            for (int i = 0; i < count; i++) {
                int place = items.placeOf(several == NONE ? code : codeOfSign(signIn(signs, i)));
                elements.put(firsts.at(place), seconds.at(place), thirds.at(place));
            }
        }

        // ---- rules

        boolean canTell(int how, int anchor, int item) {
            if (hows.size() >= RULES || anchor == NONE || anchor == item || !canBeItem(item)) {
                return false;
            }
            return how == SEVERAL ? canSortAs(item, anchor) : items.has(anchor);
        }

        private static boolean canBeItem(int item) {
            for (int i = 1; i < signsIn(item); i++) {
                if (!isLetter(signIn(item, i)) && !isMark(signIn(item, i))) {
                    return false;
                }
            }
            return signsIn(item) > 0 && isLetter(signIn(item, 0));
        }

        private boolean canSortAs(int item, int anchor) {
            for (int i = 0; i < signsIn(anchor); i++) {
                int code = codeOfSign(signIn(anchor, i));
                if (!isLetter(signIn(anchor, i)) || !items.has(code) || code == item) {
                    return false;
                }
            }
            return signsIn(anchor) > 1 && !isOneOfSeveral(item);
        }

        private boolean isOneOfSeveral(int item) {
            for (int i = 0; i < severalItems.size(); i++) {
                int signs = severalSigns.at(i);
                for (int k = 0; k < signsIn(signs); k++) {
                    if (codeOfSign(signIn(signs, k)) == item) {
                        return true;
                    }
                }
            }
            return false;
        }

        void tell(int how, int anchor, int item) {
            leaveList(item);
            leaveSeveral(item);
            if (how == SEVERAL) {
                severalItems.put(item);
                severalSigns.put(anchor);
            } else if (how >= FIRST_AHEAD) {
                putAhead(item, anchor, how - FIRST_AHEAD + 1);
            } else {
                putBehind(item, anchor, how == SAME ? 4 : how);
            }
            hows.put(how);
            anchorCodes.put(anchor);
            itemCodes.put(item);
            weigh();
        }

        private void leaveList(int item) {
            int place = items.placeOf(item);
            if (place != NONE) {
                levels.set(place + 1, Math.min(levels.at(place), levels.at(place + 1)));
                items.removeAt(place);
                levels.removeAt(place);
            }
        }

        private void leaveSeveral(int item) {
            int place = severalItems.placeOf(item);
            severalItems.removeAt(place);
            severalSigns.removeAt(place);
        }

        private void putBehind(int item, int anchor, int level) {
            int place = items.placeOf(anchor) + 1;
            while (place < items.size() && levels.at(place) > level) {
                place++;
            }
            items.insert(place, item);
            levels.insert(place, level);
        }

        private void putAhead(int item, int anchor, int level) {
            int place = items.placeOf(anchor);
            while (place > 0 && levels.at(place) > level) {
                place--;
            }
            items.insert(place, item);
            levels.insert(place, levels.at(place));
            levels.set(place + 1, level);
        }

        /** Whether all rules of the other one were possible: if not, this one is left half told. */
        boolean tellAll(Tailoring other) {
            for (int i = 0; i < other.hows.size(); i++) {
                if (!canTell(other.hows.at(i), other.anchorCodes.at(i), other.itemCodes.at(i))) {
                    return false;
                }
                tell(other.hows.at(i), other.anchorCodes.at(i), other.itemCodes.at(i));
            }
            return true;
        }

        void copyRules(Tailoring other) {
            items.copy(other.items);
            levels.copy(other.levels);
            severalItems.copy(other.severalItems);
            severalSigns.copy(other.severalSigns);
            hows.copy(other.hows);
            anchorCodes.copy(other.anchorCodes);
            itemCodes.copy(other.itemCodes);
            weigh();
        }
    }

    /** The elements of a row of signs, and which of its signs were taken together. */
    private static final class Elements {
        private final Row firsts = new Row(ELEMENTS);
        private final Row seconds = new Row(ELEMENTS);
        private final Row thirds = new Row(ELEMENTS);
        private final Row kinds = new Row(ELEMENTS);
        private final Row takers = new Row(FORM_SIGNS);
        private int kind;

        void gather(Tailoring tailoring, Row signs) {
            begin(signs.size());
            for (int place = 0; place < signs.size(); place++) {
                int sign = signs.at(place);
                if (takers.at(place) != NONE) {
                    continue;
                }
                if (isMark(sign)) {
                    putMark(sign, place);
                } else if (isDigit(sign) && tailoring.hasOption(BY_VALUE)) {
                    putNumber(tailoring, signs, place);
                } else {
                    putItem(tailoring, signs, place);
                }
            }
        }

        private void begin(int signCount) {
            firsts.clear();
            seconds.clear();
            thirds.clear();
            kinds.clear();
            takers.clear();
            for (int i = 0; i < signCount; i++) {
                takers.put(NONE);
            }
            kind = KIND_OTHER;
        }

        void put(int first, int second, int third) {
            firsts.put(first);
            seconds.put(second);
            thirds.put(third);
            kinds.put(kind);
        }

        private void take(int from, int to, int taker) {
            for (int i = from; i < to; i++) {
                takers.set(i, taker);
            }
        }

        private void putMark(int mark, int place) {
            kind = kind == KIND_OTHER ? KIND_OTHER : KIND_BEHIND_BLANK;
            take(place, place + 1, place);
            put(0, mark - FIRST_MARK + 2, 1);
        }

        private void putNumber(Tailoring tailoring, Row signs, int from) {
            kind = KIND_OTHER;
            int to = from;
            while (to < signs.size() && isDigit(signs.at(to))) {
                to++;
            }
            take(from, to, from);
            int start = from;
            while (start < to - 1 && signs.at(start) == FIRST_DIGIT) {
                start++;
            }
            put(tailoring.firstWeightOf(codeOfSign(FIRST_DIGIT)), 1, 1);
            put(to - start, 1, 1);
            for (int i = start; i < to; i++) {
                put(signs.at(i) - FIRST_DIGIT + 1, 1, 1);
            }
        }

        private void putItem(Tailoring tailoring, Row signs, int from) {
            kind = isBlank(signs.at(from)) ? KIND_BLANK : KIND_OTHER;
            int length = ITEM_SIGNS;
            while (length > 1 && !tailoring.knows(codeOf(signs, from, from + length))) {
                length--;
            }
            take(from, from + length, from);
            tailoring.putWeights(takeMarks(tailoring, signs, from, length), this);
        }

        /** The code of the row of signs from there on and of the marks that it takes besides. */
        private int takeMarks(Tailoring tailoring, Row signs, int from, int length) {
            int code = codeOf(signs, from, from + length);
            int classLeft = 0;
            for (int i = from + length; i < signs.size() && isMark(signs.at(i)); i++) {
                int longer = code * CODE_BASE + codeOfSign(signs.at(i));
                if (classOf(signs.at(i)) > classLeft && tailoring.knows(longer)) {
                    take(i, i + 1, from);
                    code = longer;
                } else {
                    classLeft = Math.max(classLeft, classOf(signs.at(i)));
                }
            }
            return code;
        }

        int weightsAt(int index) {
            if (index < 0 || index >= firsts.size()) {
                return NONE;
            }
            return 10000 * firsts.at(index) + 100 * seconds.at(index) + thirds.at(index);
        }

        /** Whether signs on both sides of the place were taken together. */
        boolean areTakenOver(int place) {
            for (int i = Math.max(place, 0); i < takers.size(); i++) {
                if (takers.at(i) < place) {
                    return true;
                }
            }
            return false;
        }

        // ---- rows of weights on the levels

        void putLevel(Tailoring tailoring, int level, Row weights) {
            weights.clear();
            boolean isShifted = tailoring.hasOption(SHIFTED);
            boolean isBackward = level == 2 && tailoring.hasOption(BACKWARD);
            int count = firsts.size();
            for (int i = 0; i < count; i++) {
                int element = isBackward ? count - 1 - i : i;
                int weight = level == STRENGTHS ? lastWeight(isShifted, element) : weightOn(level, isShifted, element);
                if (weight > 0) {
                    weights.put(weight);
                }
            }
        }

        /** 0 for what is not counted: no weight that is counted is 0. */
        private int weightOn(int level, boolean isShifted, int element) {
            if (isShifted && kinds.at(element) != KIND_OTHER) {
                return 0;
            }
            return level == 1 ? firsts.at(element) : level == 2 ? seconds.at(element) : thirds.at(element);
        }

        private int lastWeight(boolean isShifted, int element) {
            if (!isShifted || kinds.at(element) == KIND_BEHIND_BLANK) {
                return 0;
            }
            return kinds.at(element) == KIND_BLANK ? firsts.at(element) : WEIGHT_OF_OTHERS;
        }
    }

    /** Elements, keys, comparing and finding, with the rows that these need. */
    private static final class Collator {
        private static final int BEHIND_A_LEVEL = 1;
        private static final int FULL_RUN = 30;
        private static final int BYTE_OF_FULL_RUN = 33;
        private static final int BYTE_OF_NO_RUN = 64;

        private final Elements elements = new Elements();
        private final Elements partElements = new Elements();
        private final Row weights = new Row(ELEMENTS);
        private final Row otherWeights = new Row(ELEMENTS);
        private final Row bytes = new Row(KEY_BYTES);
        private final Row otherBytes = new Row(KEY_BYTES);
        private final Row part = new Row(FORM_SIGNS);

        int weightsAt(Tailoring tailoring, Row signs, int index) {
            elements.gather(tailoring, signs);
            return elements.weightsAt(index);
        }

        // ---- keys

        void putKey(Tailoring tailoring, int strength, Row signs, Row key) {
            partElements.gather(tailoring, signs);
            key.clear();
            for (int level = 1; level <= strength && level <= STRENGTHS; level++) {
                partElements.putLevel(tailoring, level, weights);
                if (level == 2 || level == 3) {
                    putRuns(weights, key);
                } else {
                    putRaised(weights, key);
                }
                key.put(BEHIND_A_LEVEL);
            }
        }

        /** 0, if the row on the first level is empty. */
        static int firstWeightIn(Row key) {
            return key.at(0) - 1;
        }

        private static void putRaised(Row weights, Row key) {
            for (int i = 0; i < weights.size(); i++) {
                key.put(weights.at(i) + 1);
            }
        }

        private static void putRuns(Row weights, Row key) {
            int ones = 0;
            for (int i = 0; i < weights.size(); i++) {
                if (weights.at(i) == 1) {
                    ones++;
                } else {
                    putRun(ones, false, key);
                    ones = 0;
                    key.put(BYTE_OF_NO_RUN + weights.at(i));
                }
            }
            putRun(ones, true, key);
        }

        private static void putRun(int ones, boolean isLast, Row key) {
            int rest = ones;
            while (rest > FULL_RUN) {
                key.put(BYTE_OF_FULL_RUN);
                rest -= FULL_RUN;
            }
            if (rest > 0) {
                key.put(isLast ? rest + 1 : BYTE_OF_NO_RUN - rest);
            }
        }

        int byteAt(Tailoring tailoring, int strength, Row signs, int index) {
            putKey(tailoring, strength, signs, bytes);
            return bytes.at(index);
        }

        // ---- comparing

        int compareByKeys(Tailoring tailoring, int strength, Row one, Row other) {
            putKey(tailoring, strength, one, bytes);
            putKey(tailoring, strength, other, otherBytes);
            return compareRows(bytes, otherBytes);
        }

        int compareByRows(Tailoring tailoring, int strength, Row one, Row other) {
            elements.gather(tailoring, one);
            partElements.gather(tailoring, other);
            int result = 0;
            for (int level = 1; level <= strength && result == 0; level++) {
                elements.putLevel(tailoring, level, weights);
                partElements.putLevel(tailoring, level, otherWeights);
                result = compareRows(weights, otherWeights);
            }
            return result;
        }

        // ---- finding

        int seek(Tailoring tailoring, int strength, Row text, Row what, int from) {
            elements.gather(tailoring, text);
            putKey(tailoring, strength, what, otherBytes);
            for (int begin = from; begin < text.size(); begin++) {
                for (int end = begin + 1; end <= text.size() && isEdge(text, begin); end++) {
                    if (!isEdge(text, end)) {
                        continue;
                    }
                    part.clear();
                    part.append(text, begin, end);
                    putKey(tailoring, strength, part, bytes);
                    if (compareRows(bytes, otherBytes) == 0) {
                        return CODE_BASE * begin + end;
                    }
                }
            }
            return NONE;
        }

        private boolean isEdge(Row text, int place) {
            return !isMark(text.at(place)) && !elements.areTakenOver(place);
        }
    }

    /** An entry with its sort form, its locators and its references. */
    private static final class Entry {
        private int textNumber;
        private int parent = NONE;
        private int indexSet;
        private int formKind;
        private int formSigns;
        /** Codes of locators by rising order, as a group of locators tells them. */
        private final Row locators = new Row(LOCATORS);
        private final Row staying = new Row(LOCATORS);
        private int seen = NONE;
        private int seenAlso;

        void begin(int ownText, int ownParent, int ownIndexes) {
            textNumber = ownText;
            parent = ownParent;
            indexSet = ownIndexes;
        }

        int textNumber() {
            return textNumber;
        }

        int parent() {
            return parent;
        }

        boolean hasParent() {
            return parent != NONE;
        }

        int indexSet() {
            return indexSet;
        }

        boolean isIn(int index) {
            return (indexSet >> index & 1) == 1;
        }

        int formKind() {
            return formKind;
        }

        int formSigns() {
            return formSigns;
        }

        boolean isTurned() {
            return formKind == FORM_TURNED;
        }

        void setForm(int kind, int n) {
            formKind = kind;
            formSigns = n;
        }

        // ---- locators

        Row locators() {
            return locators;
        }

        /** Bold ones go ahead of plain ones, and those ahead of those of notes. */
        private static int rankOf(int sort) {
            return sort == NOTE ? NOTE : 1 - sort;
        }

        private static int locatorCode(int page, int sort) {
            return PAGE_BASE * rankOf(sort) + page;
        }

        static int pageOf(int locator) {
            return locator % PAGE_BASE;
        }

        static int sortOf(int locator) {
            return rankOf(locator / PAGE_BASE);
        }

        boolean hasLocator(int page, int sort) {
            return locators.has(locatorCode(page, sort));
        }

        void addLocator(int page, int sort) {
            int code = locatorCode(page, sort);
            int place = locators.size();
            while (place > 0 && locators.at(place - 1) > code) {
                place--;
            }
            locators.insert(place, code);
        }

        /** How many are lost. The new pages rise with the old ones, so that the order stays. */
        int moveLocators(Pins pins) {
            int lost = 0;
            staying.clear();
            for (int i = 0; i < locators.size(); i++) {
                int page = pins.nextOf(pageOf(locators.at(i)));
                int code = locatorCode(page, sortOf(locators.at(i)));
                if (page == NONE) {
                    lost++;
                } else if (!staying.has(code)) {
                    staying.put(code);
                }
            }
            locators.copy(staying);
            return lost;
        }

        // ---- references

        int seen() {
            return seen;
        }

        boolean seesAlso(int target) {
            return (seenAlso >> target & 1) == 1;
        }

        int alsoCount() {
            return Integer.bitCount(seenAlso);
        }

        void addReference(int target, boolean isAlso) {
            if (isAlso) {
                seenAlso |= 1 << target;
            } else {
                seen = target;
            }
        }
    }

    /** The locators of one entry, told in groups. */
    private static final class Groups {
        private final Row sorts = new Row(LOCATORS);
        private final Row firsts = new Row(LOCATORS);
        private final Row lasts = new Row(LOCATORS);

        int count() {
            return sorts.size();
        }

        int asNumber(int group) {
            if (group < 0 || group >= sorts.size()) {
                return NONE;
            }
            return 1000000 * sorts.at(group) + PAGE_BASE * firsts.at(group) + lasts.at(group);
        }

        void gather(Row locators) {
            sorts.clear();
            firsts.clear();
            lasts.clear();
            for (int i = 0; i < locators.size(); i++) {
                addPage(Entry.sortOf(locators.at(i)), Entry.pageOf(locators.at(i)));
            }
            for (int i = 0; i < sorts.size(); i++) {
                joinFrom(i);
            }
        }

        private void addPage(int sort, int page) {
            int last = sorts.size() - 1;
            if (sorts.at(last) == sort && lasts.at(last) + 1 == page) {
                lasts.set(last, page);
                return;
            }
            sorts.put(sort);
            firsts.put(page);
            lasts.put(page);
        }

        private void joinFrom(int group) {
            int end = group;
            while (end < sorts.size() && sorts.at(end) == PLAIN
                    && firsts.at(end) <= firsts.at(group) + PASSIM_PAGES) {
                end++;
            }
            if (end - group < PASSIM_GROUPS) {
                return;
            }
            sorts.set(group, PASSIM);
            lasts.set(group, lasts.at(end - 1));
            for (int i = end - 1; i > group; i--) {
                sorts.removeAt(i);
                firsts.removeAt(i);
                lasts.removeAt(i);
            }
        }
    }

    /** The order of the entries of an index, and that ahead of the last change of its tailoring. */
    private static final class Index {
        private final Row order = new Row(ENTRIES);
        private final Row firstWeights = new Row(ENTRIES);
        private final Row before = new Row(ENTRIES);
        private boolean isOrdered;

        boolean isOrdered() {
            return isOrdered;
        }

        Row order() {
            return order;
        }

        void begin() {
            order.clear();
            firstWeights.clear();
            isOrdered = true;
        }

        void addFirstWeight(int weight) {
            firstWeights.put(weight);
        }

        int firstWeightOf(int entry) {
            return firstWeights.at(entry);
        }

        void forget() {
            isOrdered = false;
        }

        Row before() {
            return before;
        }

        /** Called ahead of what changes the tailoring, so that the order has to be found anew. */
        void remember(Row now) {
            before.copy(now);
            isOrdered = false;
        }
    }

    /** The words, and as what they can be and were read. */
    private static final class Corpus {
        private final Row wordTexts = new Row(WORDS);
        private final Row wordReads = new Row(WORDS);
        private final Row[] readings = new Row[TEXTS];

        Corpus() {
            for (int i = 0; i < TEXTS; i++) {
                readings[i] = new Row(READINGS);
            }
        }

        int wordCount() {
            return wordTexts.size();
        }

        boolean hasWord(int word) {
            return word >= 0 && word < wordTexts.size();
        }

        void addWord(int text) {
            wordTexts.put(text);
            wordReads.put(NONE);
        }

        int textOf(int word) {
            return wordTexts.at(word);
        }

        int readAs(int word) {
            return wordReads.at(word);
        }

        void setRead(int word, int lemma) {
            wordReads.set(word, lemma);
        }

        Row readingsOf(int text) {
            return readings[text >= 0 && text < TEXTS ? text : 0];
        }

        boolean isOf(int word, int lemma) {
            if (readAs(word) != NONE) {
                return readAs(word) == lemma;
            }
            Row lemmas = readingsOf(textOf(word));
            return lemmas.isEmpty() ? textOf(word) == lemma : lemmas.has(lemma);
        }

        int countOf(int lemma) {
            int count = 0;
            for (int word = 0; word < wordTexts.size(); word++) {
                count += isOf(word, lemma) ? 1 : 0;
            }
            return count;
        }
    }

    /** Which pages of the edition are which ones of the next. */
    private static final class Pins {
        private final Row pages = new Row(PINS);
        private final Row nexts = new Row(PINS);

        int count() {
            return pages.size();
        }

        boolean isAboveLast(int page, int next) {
            return page > pages.at(pages.size() - 1) && next > nexts.at(nexts.size() - 1);
        }

        void add(int page, int next) {
            pages.put(page);
            nexts.put(next);
        }

        void clear() {
            pages.clear();
            nexts.clear();
        }

        /** NONE for a page that is lost. */
        int nextOf(int page) {
            int pin = NONE;
            for (int i = 0; i < pages.size(); i++) {
                pin = pages.at(i) <= page ? i : pin;
            }
            int distance = page - pages.at(pin);
            if (pin == NONE || distance == 0) {
                return nexts.at(pin);
            }
            int oldDistance = pages.at(pin + 1) - pages.at(pin);
            int newDistance = nexts.at(pin + 1) - nexts.at(pin);
            return oldDistance > 0 ? nexts.at(pin) + distance * newDistance / oldDistance : NONE;
        }
    }
}
