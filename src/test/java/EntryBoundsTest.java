/** The promises 10 to 14 and 30 to 36 at their bounds: ahead of each test a remark says the sentence that it is about. */
public final class EntryBoundsTest {
    private EntryBoundsTest() {
    }

    public static void main(String[] args) {
        heading();
        entry();
        entryThrows();
        form();
        sortForms();
        locate();
        locateThrows();
        see();
        seeThrows();
        entries();
        entryAt();
        beneathThrows();
        beneath();
        overflow();
        locatorAt();
        groups();
        passim();
        leads();
        dead();
        moved();
        Script.end();
    }

    private static void heading() {
        // "`letter`: 0 to 11"
        // "Throws `IndexOutOfBoundsException` if there is no such letter"
        Script.run("Promise 10: the first letter and the last, and none of these", """
                heading -1 true -> IOOBE
                heading 12 true -> IOOBE
                heading least true -> IOOBE
                heading greatest true -> IOOBE
                heading -1 false -> IOOBE
                heading 12 false -> IOOBE
                heading least false -> IOOBE
                heading greatest false -> IOOBE
                heading 0 true -> 1
                heading 11 true -> 2
                """);
        // "Returns how many headings there are then."
        // "Makes a letter a heading, or not any more."
        // "`isOn`: whether it is one from now on"
        // "Headings are letters."
        Script.run("Promise 10: none, 1 and 12; on again, and off again", """
                heading 5 false -> 0
                heading 5 true -> 1
                heading 5 true -> 1
                heading 0 true -> 2
                heading 1 true -> 3
                heading 2 true -> 4
                heading 3 true -> 5
                heading 4 true -> 6
                heading 6 true -> 7
                heading 7 true -> 8
                heading 8 true -> 9
                heading 9 true -> 10
                heading 10 true -> 11
                heading 11 true -> 12
                heading 11 true -> 12
                heading 12 true -> IOOBE
                heading 0 false -> 11
                heading 0 false -> 11
                heading 0 true -> 12
                """);
        // "A call that throws an exception changes nothing."
        Script.run("Promise 10: what threw is no heading", """
                text 0 -> 0
                entry -1 0 1 -> 0
                heading 12 true -> IOOBE
                heading -1 true -> IOOBE
                beneath 0 0 -> -1
                heading 0 true -> 1
                heading 12 false -> IOOBE
                beneath 0 0 -> 0
                """);
    }

    private static void entry() {
        // "`indexes`: 1 to 7: the set of its indexes, in which index k counts 2 to the power of k; with a parent it is of no use, but has to be in range, too"
        Script.run("Promise 11: each set of indexes", """
                text 0 -> 0
                entry -1 0 1 -> 0
                entry -1 0 2 -> 1
                entry -1 0 3 -> 2
                entry -1 0 4 -> 3
                entry -1 0 5 -> 4
                entry -1 0 6 -> 5
                entry -1 0 7 -> 6
                all entryAt 0 -> 0 2 4 6
                all entryAt 1 -> 1 2 5 6
                all entryAt 2 -> 3 4 5 6
                """);
        // "Throws `IllegalArgumentException` if indexes is out of range"
        Script.run("Promise 11: sets out of range, with a parent and without", """
                text 0 -> 0
                entry -1 0 0 -> IAE
                entry -1 0 8 -> IAE
                entry -1 0 -1 -> IAE
                entry -1 0 least -> IAE
                entry -1 0 greatest -> IAE
                entry -1 0 4 -> 0
                entry 0 0 0 -> IAE
                entry 0 0 8 -> IAE
                entry 0 0 least -> IAE
                entry 0 0 greatest -> IAE
                entry 0 0 1 -> 1
                entry 0 0 7 -> 2
                all entryAt 0 ->
                all entryAt 2 -> 0 1 2
                """);
        // "Entries are numbered from 0, at most 24."
        // "Returns its number."
        // "Adds an entry."
        Script full = new Script("Promise 11: the entries from 0 to 23, and no more");
        full.lines("text 0 -> 0");
        for (int number = 0; number < 24; number++) {
            full.due(number, "entry", number % 2 == 0 ? -1 : number - 1, 0, 1);
        }
        full.lines("""
                entries -> 24
                entry -1 0 1 -> ISE
                entry 0 0 1 -> ISE
                entry 22 0 1 -> ISE
                entries -> 24
                entryAt 0 23 -> 23
                entryAt 0 24 -> IOOBE
                """);
        // "`parent`: NONE, or an entry without a parent"
        // "An entry has a text, and either indexes, some of 0, 1 and 2, or a parent, which is an entry without one, and whose indexes it has."
        Script.run("Promise 11: a parent is the first entry, or the last one", """
                text 0 -> 0
                entry -1 0 1 -> 0
                entry 0 0 1 -> 1
                entry -1 0 1 -> 2
                entry 2 0 1 -> 3
                entry 1 0 1 -> ISE
                entry 3 0 1 -> ISE
                all entryAt 0 -> 0 1 2 3
                """);
    }

    private static void entryThrows() {
        // "Throws `IndexOutOfBoundsException` if there is no such entry or text"
        Script.run("Promise 11: no such parent, its own number too", """
                text 0 -> 0
                entry 0 0 1 -> IOOBE
                entry -2 0 1 -> IOOBE
                entry least 0 1 -> IOOBE
                entry greatest 0 1 -> IOOBE
                entry 24 0 1 -> IOOBE
                entry -1 0 1 -> 0
                entry 1 0 1 -> IOOBE
                entry 0 0 1 -> 1
                """);
        // "Throws `IndexOutOfBoundsException` if there is no such entry or text"
        // "`text`: its text"
        Script.run("Promise 11: no such text", """
                entry -1 0 1 -> IOOBE
                text 0 -> 0
                entry -1 -1 1 -> IOOBE
                entry -1 1 1 -> IOOBE
                entry -1 30 1 -> IOOBE
                entry -1 least 1 -> IOOBE
                entry -1 greatest 1 -> IOOBE
                entry -1 0 1 -> 0
                entry 0 1 1 -> IOOBE
                """);
        // "Throws `IllegalStateException` if the parent has one itself, or there are 24"
        Script.run("Promise 11: the parent has one itself, and there are 24, and both", """
                text 0 -> 0
                entry -1 0 1 -> 0
                entry 0 0 1 -> 1
                entry 1 0 1 -> ISE
                times 21 entry -1 0 1
                entry -1 0 1 -> 23
                entry -1 0 1 -> ISE
                entry 0 0 1 -> ISE
                entry 1 0 1 -> ISE
                """);
        // "If several apply, the one that the throws clause names first is thrown."
        Script.run("Promise 11: what is named first", """
                text 0 -> 0
                entry -1 0 1 -> 0
                entry 0 0 1 -> 1
                # no such entry or text, and out of range
                entry 2 0 0 -> IOOBE
                entry -1 1 0 -> IOOBE
                entry 2 1 8 -> IOOBE
                # no such text, and the parent has one
                entry 1 1 1 -> IOOBE
                # out of range, and the parent has one
                entry 1 0 0 -> IAE
                entry 1 0 8 -> IAE
                times 22 entry -1 0 1
                # and there are 24
                entry -1 0 8 -> IAE
                entry -1 1 1 -> IOOBE
                entry 24 0 1 -> IOOBE
                """);
        // "A call that throws an exception changes nothing."
        Script.run("Promise 11: what threw is no entry, and no last call of a tailoring", """
                text 0 -> 0
                text 1 -> 1
                entry -1 0 1 -> 0
                entry -1 1 1 -> 1
                rule 0 4 : 0 / 1 -> 1
                moved 0 -> 2
                entry -1 2 1 -> IOOBE
                entry -1 0 8 -> IAE
                entry 2 0 1 -> IOOBE
                entry 0 0 1 -> 2
                entry 2 0 1 -> ISE
                entries -> 3
                all entryAt 0 -> 1 0 2
                moved 0 -> 2
                """);
    }

    private static void form() {
        // "`kind`: 0 its text as it is, 1 with a particle, 2 turned"
        // "`n`: for 1 and 2, how many signs, at least 1, and less than the text has, taken apart; 0 for 0"
        // "Sets the sort form of an entry."
        Script.run("Promise 12: the least n and the greatest, of 3 signs", """
                text 0 1 2 -> 0
                entry -1 0 1 -> 0
                form 0 1 0 -> IAE
                form 0 1 1 -> 0
                form 0 1 2 -> 1
                form 0 1 3 -> IAE
                form 0 2 0 -> IAE
                form 0 2 1 -> 1
                form 0 2 2 -> 2
                form 0 2 3 -> IAE
                form 0 0 0 -> 2
                form 0 0 1 -> IAE
                form 0 0 -1 -> IAE
                form 0 0 0 -> 0
                """);
        // "and less than the text has, taken apart"
        Script.run("Promise 12: a text of 1 sign, and one of 1 composed sign", """
                compose 40 0 24 -> 1
                text 0 -> 0
                text 40 -> 1
                entry -1 0 1 -> 0
                entry -1 1 1 -> 1
                form 0 1 1 -> IAE
                form 0 2 1 -> IAE
                form 1 1 1 -> 0
                form 1 1 2 -> IAE
                form 1 2 1 -> 1
                form 1 2 2 -> IAE
                """);
        // "and less than the text has, taken apart"
        Script.run("Promise 12: the longest text, of 30 signs taken apart", """
                compose 40 0 24 -> 1
                compose 41 40 24 -> 2
                text 41 41 41 41 41 41 41 41 41 41 -> 0
                entry -1 0 1 -> 0
                form 0 1 29 -> 0
                form 0 2 29 -> 1
                form 0 1 30 -> IAE
                form 0 2 30 -> IAE
                form 0 0 0 -> 2
                """);
        // "Throws `IllegalArgumentException` if kind or n is out of range"
        Script.run("Promise 12: kinds and n out of range, far off", """
                text 0 1 -> 0
                entry -1 0 1 -> 0
                form 0 -1 1 -> IAE
                form 0 3 1 -> IAE
                form 0 3 0 -> IAE
                form 0 least 0 -> IAE
                form 0 greatest 1 -> IAE
                form 0 1 -1 -> IAE
                form 0 1 least -> IAE
                form 0 1 greatest -> IAE
                form 0 2 -1 -> IAE
                form 0 2 least -> IAE
                form 0 2 greatest -> IAE
                form 0 0 least -> IAE
                form 0 0 greatest -> IAE
                form 0 0 0 -> 0
                """);
        // "Throws `IndexOutOfBoundsException` if there is no such entry"
        // "If several apply, the one that the throws clause names first is thrown."
        // "`entry`: its number"
        Script.run("Promise 12: no such entry, and out of range as well", """
                form 0 0 0 -> IOOBE
                text 0 1 -> 0
                entry -1 0 1 -> 0
                form -1 0 0 -> IOOBE
                form 1 0 0 -> IOOBE
                form 24 0 0 -> IOOBE
                form least 0 0 -> IOOBE
                form greatest 0 0 -> IOOBE
                form 1 3 0 -> IOOBE
                form -1 1 0 -> IOOBE
                form 1 0 -1 -> IOOBE
                form 0 0 0 -> 0
                """);
        // "Returns the kind that it had."
        // "A call that throws an exception changes nothing."
        Script.run("Promise 12: what threw set no form", """
                text 0 1 -> 0
                text 0 -> 1
                entry -1 0 1 -> 0
                entry -1 1 1 -> 1
                form 0 1 1 -> 0
                all entryAt 0 -> 1 0
                form 0 0 1 -> IAE
                form 0 2 2 -> IAE
                form 0 3 1 -> IAE
                form 2 0 0 -> IOOBE
                all entryAt 0 -> 1 0
                form 0 1 1 -> 1
                """);
    }

    private static void sortForms() {
        // "The sort form of an entry is its text, taken apart; less its first n signs, if n of them are told to be a particle"
        Script.run("Promise 31: a particle of 1 sign, and of all but 1", """
                text 2 1 0 -> 0
                text 1 -> 1
                entry -1 1 1 -> 0
                entry -1 0 1 -> 1
                # 2 1 0, behind 1
                all entryAt 0 -> 0 1
                form 1 1 1 -> 0
                # 1 0
                all entryAt 0 -> 0 1
                form 1 1 2 -> 1
                # 0
                all entryAt 0 -> 1 0
                """);
        // "or, if it is told to be turned at n, its signs from the place n on, a blank, and its first n signs"
        Script.run("Promise 31: turned at 1, and at the last sign", """
                text 2 1 0 -> 0
                text 1 -> 1
                text 0 28 2 0 -> 2
                entry -1 1 1 -> 0
                entry -1 0 1 -> 1
                entry -1 2 1 -> 2
                form 1 2 1 -> 0
                # 1 0 28 2
                all entryAt 0 -> 2 0 1
                form 1 2 2 -> 2
                # 0 28 2 1, behind 0 28 2 0
                all entryAt 0 -> 2 1 0
                """);
        // "or, if it is told to be turned at n, its signs from the place n on, a blank, and its first n signs"
        Script.run("Promise 31: the longest sort form, of 31 signs, the last one of which decides", """
                compose 40 0 24 -> 1
                compose 41 40 25 -> 2
                compose 42 40 26 -> 3
                text 42 41 41 41 41 41 41 41 41 41 -> 0
                text 41 41 41 41 41 41 41 41 41 41 -> 1
                entry -1 0 1 -> 0
                entry -1 1 1 -> 1
                form 0 2 3 -> 0
                form 1 2 3 -> 0
                all entryAt 0 -> 1 0
                """);
        // "The sort form of an entry is its text, taken apart"
        Script.run("Promise 31: a particle that leaves a mark alone, and a form that begins with one", """
                compose 40 1 24 -> 1
                text 40 -> 0
                text 0 -> 1
                text 25 -> 2
                entry -1 1 1 -> 0
                entry -1 0 1 -> 1
                entry -1 2 1 -> 2
                heading 0 true -> 1
                heading 1 true -> 2
                all entryAt 0 -> 2 0 1
                beneath 0 1 -> 1
                form 1 1 1 -> 0
                # 24 goes ahead of 25, and has no row on the first level
                all entryAt 0 -> 1 2 0
                beneath 0 1 -> -1
                form 1 2 1 -> 1
                # 24 28 1
                all entryAt 0 -> 2 1 0
                beneath 0 1 -> -1
                option 0 0 true -> false
                # shifted it begins with 1
                all entryAt 0 -> 2 0 1
                beneath 0 1 -> 1
                """);
    }

    private static void locate() {
        // "`page`: 1 to 999"
        // "`sort`: 0 plain, 1 bold, 2 of a note"
        // "Adds a locator."
        Script.run("Promise 13: the first page and the last one of each sort", """
                text 0 -> 0
                entry -1 0 1 -> 0
                locate 0 1 0 -> true
                locate 0 999 0 -> true
                locate 0 1 1 -> true
                locate 0 999 1 -> true
                locate 0 1 2 -> true
                locate 0 999 2 -> true
                all locatorAt 0 -> 1001001 1999999 1001 999999 2001001 2999999
                """);
        // "An entry has at most 10; a locator is a page, 1 to 999, and plain (0), bold (1) or of a note (2)."
        // "Throws `IllegalStateException` if it does not have it, and has 10"
        Script.run("Promise 13: the 10th locator, the 11th, and one that it has", """
                text 0 -> 0
                entry -1 0 1 -> 0
                entry -1 0 1 -> 1
                locate 0 10 0 -> true
                locate 0 20 0 -> true
                locate 0 30 0 -> true
                locate 0 40 0 -> true
                locate 0 50 0 -> true
                locate 0 60 0 -> true
                locate 0 70 0 -> true
                locate 0 80 0 -> true
                locate 0 90 0 -> true
                locate 0 100 0 -> true
                locate 0 110 0 -> ISE
                locate 0 10 1 -> ISE
                locate 0 10 2 -> ISE
                locate 0 10 0 -> false
                locate 0 100 0 -> false
                locate 1 110 0 -> true
                """);
        // "Returns whether the entry did not have it."
        Script.run("Promise 13: it has the page of another sort, and the next page", """
                text 0 -> 0
                entry -1 0 1 -> 0
                locate 0 500 1 -> true
                locate 0 500 0 -> true
                locate 0 500 2 -> true
                locate 0 501 1 -> true
                locate 0 499 1 -> true
                locate 0 500 1 -> false
                locate 0 500 0 -> false
                locate 0 500 2 -> false
                all locatorAt 0 -> 1499501 500500 2500500
                """);
        // "An entry has at most 10"
        Script.run("Promise 13: when a locator is lost, there is place for another one", """
                text 0 -> 0
                entry -1 0 1 -> 0
                locate 0 1 0 -> true
                locate 0 2 0 -> true
                locate 0 3 0 -> true
                locate 0 4 0 -> true
                locate 0 5 0 -> true
                locate 0 6 0 -> true
                locate 0 7 0 -> true
                locate 0 8 0 -> true
                locate 0 9 0 -> true
                locate 0 10 0 -> true
                locate 0 11 0 -> ISE
                pin 1 1 -> 1
                pin 9 9 -> 2
                edition -> 1
                locate 0 11 0 -> true
                locate 0 12 0 -> ISE
                all locatorAt 0 -> 1009 11011
                """);
    }

    private static void locateThrows() {
        // "Throws `IllegalArgumentException` if page or sort is out of range"
        Script.run("Promise 13: pages and sorts out of range", """
                text 0 -> 0
                entry -1 0 1 -> 0
                locate 0 0 0 -> IAE
                locate 0 1000 0 -> IAE
                locate 0 -1 0 -> IAE
                locate 0 least 0 -> IAE
                locate 0 greatest 0 -> IAE
                locate 0 1 -1 -> IAE
                locate 0 1 3 -> IAE
                locate 0 1 least -> IAE
                locate 0 1 greatest -> IAE
                locate 0 0 3 -> IAE
                all locatorAt 0 ->
                """);
        // "Throws `IndexOutOfBoundsException` if there is no such entry"
        // "`entry`: its number"
        Script.run("Promise 13: no such entry", """
                locate 0 1 0 -> IOOBE
                text 0 -> 0
                entry -1 0 1 -> 0
                locate -1 1 0 -> IOOBE
                locate 1 1 0 -> IOOBE
                locate 24 1 0 -> IOOBE
                locate least 1 0 -> IOOBE
                locate greatest 1 0 -> IOOBE
                locate 0 1 0 -> true
                """);
        // "If several apply, the one that the throws clause names first is thrown."
        Script.run("Promise 13: what is named first", """
                text 0 -> 0
                entry -1 0 1 -> 0
                locate 1 0 0 -> IOOBE
                locate -1 1 3 -> IOOBE
                locate 0 1 0 -> true
                locate 0 2 0 -> true
                locate 0 3 0 -> true
                locate 0 4 0 -> true
                locate 0 5 0 -> true
                locate 0 6 0 -> true
                locate 0 7 0 -> true
                locate 0 8 0 -> true
                locate 0 9 0 -> true
                locate 0 10 0 -> true
                # it has 10
                locate 0 11 3 -> IAE
                locate 0 1000 0 -> IAE
                locate 1 11 0 -> IOOBE
                locate 0 11 2 -> ISE
                """);
        // "A call that throws an exception changes nothing."
        Script.run("Promise 13: what threw added no locator", """
                text 0 -> 0
                entry -1 0 1 -> 0
                locate 0 7 0 -> true
                locate 0 0 0 -> IAE
                locate 0 8 3 -> IAE
                locate 1 8 0 -> IOOBE
                all locatorAt 0 -> 7007
                leads 0 -> 0
                """);
    }

    private static void see() {
        // "An entry can see another one, at most one; and it can see others also."
        // "Lets an entry see another one."
        Script.run("Promise 14: one, once more, and a third one; others also", """
                text 0 -> 0
                times 4 entry -1 0 1
                see 0 1 false -> true
                see 0 1 false -> false
                see 0 2 false -> ISE
                see 0 2 true -> true
                see 0 3 true -> true
                see 0 1 true -> true
                see 0 2 true -> false
                see 0 2 false -> ISE
                dead -> 4
                """);
        // "Returns whether it did not so far."
        // "`isAlso`: whether it sees it also"
        Script.run("Promise 14: each sort for itself, and each way", """
                text 0 -> 0
                times 2 entry -1 0 1
                see 0 1 true -> true
                see 0 1 false -> true
                see 1 0 true -> true
                see 1 0 false -> true
                see 0 1 true -> false
                see 0 1 false -> false
                see 1 0 true -> false
                see 1 0 false -> false
                dead -> 4
                """);
        // "and it can see others also"
        Script others = new Script("Promise 14: the first entry sees all 23 others also, and the last one, too");
        others.lines("text 0 -> 0\ntimes 24 entry -1 0 1");
        for (int target = 0; target < 24; target++) {
            others.due(target == 0 ? "IAE" : true, "see", 0, target, true);
            others.due(target == 23 ? "IAE" : true, "see", 23, target, true);
        }
        others.due(46, "dead");
        for (int target = 1; target < 23; target++) {
            others.due(false, "see", 0, target, true);
            others.due(false, "see", 23, target, true);
        }
        others.lines("see 0 23 true -> false\nsee 23 0 true -> false\nsee 22 23 true -> true\ndead -> 47");
        // "`target`: another one"
        Script.run("Promise 14: a sub-entry and its parent are others", """
                text 0 -> 0
                entry -1 0 1 -> 0
                entry 0 0 1 -> 1
                see 0 1 false -> true
                see 1 0 false -> true
                see 0 1 true -> true
                see 1 0 true -> true
                """);
    }

    private static void seeThrows() {
        // "Throws `IndexOutOfBoundsException` if there is no such entry, of either"
        // "`entry`: its number"
        Script.run("Promise 14: no such entry, of each", """
                see 0 1 false -> IOOBE
                text 0 -> 0
                times 2 entry -1 0 1
                see -1 0 false -> IOOBE
                see 2 0 false -> IOOBE
                see least 0 true -> IOOBE
                see greatest 0 true -> IOOBE
                see 24 0 true -> IOOBE
                see 0 -1 false -> IOOBE
                see 0 2 false -> IOOBE
                see 0 least true -> IOOBE
                see 0 greatest true -> IOOBE
                see 0 24 true -> IOOBE
                see 0 32 true -> IOOBE
                dead -> 0
                """);
        // "Throws `IllegalArgumentException` if both are the same"
        Script.run("Promise 14: both are the same, of both sorts", """
                text 0 -> 0
                times 2 entry -1 0 1
                see 0 0 false -> IAE
                see 0 0 true -> IAE
                see 1 1 false -> IAE
                see 1 1 true -> IAE
                dead -> 0
                """);
        // "Throws `IllegalStateException` if not isAlso, and it sees a third one"
        Script.run("Promise 14: a third one, and no third one also", """
                text 0 -> 0
                times 3 entry -1 0 1
                see 0 1 true -> true
                # it sees none but also
                see 0 2 false -> true
                see 0 1 false -> ISE
                see 0 2 false -> false
                see 1 2 false -> true
                """);
        // "If several apply, the one that the throws clause names first is thrown."
        Script.run("Promise 14: what is named first", """
                text 0 -> 0
                times 3 entry -1 0 1
                see 0 1 false -> true
                # both are the same, and it sees a third one
                see 0 0 false -> IAE
                see 0 3 false -> IOOBE
                see 3 3 false -> IOOBE
                see -1 -1 true -> IOOBE
                see 0 -1 false -> IOOBE
                see 0 2 false -> ISE
                """);
        // "A call that throws an exception changes nothing."
        Script.run("Promise 14: what threw is no reference", """
                text 0 -> 0
                times 3 entry -1 0 1
                see 0 1 false -> true
                see 0 2 false -> ISE
                see 0 0 true -> IAE
                see 0 3 true -> IOOBE
                dead -> 1
                locate 1 1 0 -> true
                leads 0 -> 1
                dead -> 0
                see 0 2 true -> true
                dead -> 1
                """);
    }

    private static void entries() {
        // "`int entries()`: Returns how many entries there are."
        Script.run("Promise 30: none, 1 and 24, sub-entries too", """
                entries -> 0
                text 0 -> 0
                entries -> 0
                entry -1 0 4 -> 0
                entries -> 1
                entry 0 0 1 -> 1
                entries -> 2
                entry 1 0 1 -> ISE
                entries -> 2
                times 22 entry -1 0 2
                entries -> 24
                entry -1 0 1 -> ISE
                entries -> 24
                """);
    }

    private static void entryAt() {
        // "Throws `IndexOutOfBoundsException` if there is no such index or place"
        // "`index`: 0 to 2"
        Script.run("Promise 31: an empty index, and no such index", """
                entryAt 0 0 -> IOOBE
                text 0 -> 0
                entry -1 0 2 -> 0
                entryAt 0 0 -> IOOBE
                entryAt 1 0 -> 0
                entryAt 2 0 -> IOOBE
                entryAt -1 0 -> IOOBE
                entryAt 3 0 -> IOOBE
                entryAt least 0 -> IOOBE
                entryAt greatest 0 -> IOOBE
                entryAt 3 1 -> IOOBE
                """);
        // "`place`: from 0, sub-entries counted"
        // "Returns an entry of an index by its order."
        // "Returns the entry."
        Script.run("Promise 31: the first place and the last one, and none of these", """
                text 0 -> 0
                entry -1 0 1 -> 0
                entry 0 0 1 -> 1
                entryAt 0 0 -> 0
                entryAt 0 1 -> 1
                entryAt 0 2 -> IOOBE
                entryAt 0 -1 -> IOOBE
                entryAt 0 least -> IOOBE
                entryAt 0 greatest -> IOOBE
                """);
        // "In an index entries without parents are in order by comparing sort forms on the strength 4, those that are the same by numbers; behind each one come its own sub-entries, in order likewise."
        Script.run("Promise 31: all the same, and the same but on the fourth level", """
                option 0 0 true -> false
                text 0 -> 0
                text 28 0 -> 1
                entry -1 0 1 -> 0
                entry -1 0 1 -> 1
                entry -1 1 1 -> 2
                entry 0 0 1 -> 3
                entry 0 1 1 -> 4
                entry 0 0 1 -> 5
                # 28 0 has 1 and 100 on the fourth level
                all entryAt 0 -> 2 0 4 3 5 1
                option 0 0 false -> true
                all entryAt 0 -> 2 0 4 3 5 1
                """);
        // "In an index entries without parents are in order by comparing sort forms on the strength 4, those that are the same by numbers"
        Script many = new Script("Promise 31: 24 entries, the last one first, and the other way round");
        for (int number = 0; number < 24; number++) {
            many.lines("text " + (23 - number) % 12 + (number < 12 ? " 24" : "") + " -> " + number + "\nentry -1 " + number + " 7 -> " + number);
        }
        for (int letter = 0; letter < 12; letter++) {
            many.due(23 - letter, "entryAt", 2, 2 * letter);
            many.due(11 - letter, "entryAt", 2, 2 * letter + 1);
        }
        many.due("IOOBE", "entryAt", 2, 24);
        // "The index k goes by the tailoring k."
        Script.run("Promise 31: each index by its own tailoring", """
                text 0 -> 0
                text 1 -> 1
                entry -1 0 7 -> 0
                entry -1 1 7 -> 1
                rule 2 4 : 0 / 1 -> 1
                all entryAt 0 -> 0 1
                all entryAt 1 -> 0 1
                all entryAt 2 -> 1 0
                rule 0 4 : 0 / 1 -> 1
                all entryAt 0 -> 1 0
                all entryAt 1 -> 0 1
                """);
    }

    private static void beneathThrows() {
        // "Throws `IndexOutOfBoundsException` if there is no such index, or entry in it"
        // "`index`: 0 to 2"
        Script.run("Promise 32: no such index, no such entry, and none in the index", """
                beneath 0 0 -> IOOBE
                text 0 -> 0
                entry -1 0 2 -> 0
                entry 0 0 5 -> 1
                beneath 1 0 -> -1
                beneath 1 1 -> -1
                beneath 0 0 -> IOOBE
                beneath 2 0 -> IOOBE
                beneath 0 1 -> IOOBE
                beneath 2 1 -> IOOBE
                beneath -1 0 -> IOOBE
                beneath 3 0 -> IOOBE
                beneath least 0 -> IOOBE
                beneath greatest 0 -> IOOBE
                beneath 1 -1 -> IOOBE
                beneath 1 2 -> IOOBE
                beneath 1 24 -> IOOBE
                beneath 1 least -> IOOBE
                beneath 1 greatest -> IOOBE
                beneath 3 2 -> IOOBE
                # the shift by 31 and by 32 would come round
                beneath 31 0 -> IOOBE
                beneath 33 0 -> IOOBE
                """);
    }

    private static void beneath() {
        // "with the greatest first weight that is at most the first weight of the sort form's row on the level 1"
        // "Returns beneath which heading an entry stands."
        // "Returns the heading; 100 and a heading, together, if it overflows; NONE for none."
        Script.run("Promise 32: just its weight, one less and one more", """
                text 3 -> 0
                entry -1 0 1 -> 0
                heading 4 true -> 1
                beneath 0 0 -> -1
                heading 2 true -> 2
                beneath 0 0 -> 2
                heading 0 true -> 3
                beneath 0 0 -> 2
                heading 3 true -> 4
                beneath 0 0 -> 3
                heading 3 false -> 3
                heading 2 false -> 2
                beneath 0 0 -> 0
                heading 0 false -> 1
                beneath 0 0 -> -1
                """);
        // "none, if there is none, or the row is empty"
        Script.run("Promise 32: no headings, all of them, and an empty row", """
                text 0 -> 0
                text 24 -> 1
                text 28 -> 2
                text 39 -> 3
                text 23 -> 4
                entry -1 0 1 -> 0
                entry -1 1 1 -> 1
                entry -1 2 1 -> 2
                entry -1 3 1 -> 3
                entry -1 4 1 -> 4
                beneath 0 0 -> -1
                beneath 0 1 -> -1
                heading 0 true -> 1
                heading 1 true -> 2
                heading 2 true -> 3
                heading 3 true -> 4
                heading 4 true -> 5
                heading 5 true -> 6
                heading 6 true -> 7
                heading 7 true -> 8
                heading 8 true -> 9
                heading 9 true -> 10
                heading 10 true -> 11
                heading 11 true -> 12
                beneath 0 0 -> 0
                beneath 0 1 -> -1
                beneath 0 2 -> -1
                # 39 has the weight next to that of 0
                beneath 0 3 -> -1
                beneath 0 4 -> 11
                option 0 0 true -> false
                # now its row is empty
                beneath 0 2 -> -1
                rule 0 4 : 28 / 0 -> 1
                # 0 has the first weight 1
                beneath 0 1 -> -1
                beneath 0 2 -> -1
                beneath 0 3 -> 0
                option 0 0 false -> true
                beneath 0 2 -> 0
                """);
        // "of several the greatest letter"
        Script.run("Promise 32: several of the same first weight", """
                text 11 -> 0
                entry -1 0 1 -> 0
                rule 0 2 : 11 / 0 -> 1
                rule 0 3 : 11 / 10 -> 2
                rule 0 0 : 11 / 9 -> 3
                heading 0 true -> 1
                beneath 0 0 -> 100
                heading 10 true -> 2
                beneath 0 0 -> 10
                heading 9 true -> 3
                beneath 0 0 -> 10
                heading 11 true -> 4
                beneath 0 0 -> 11
                heading 11 false -> 3
                heading 10 false -> 2
                beneath 0 0 -> 9
                """);
        // "as an item of one sign of the list"
        Script.run("Promise 32: a letter that sorts as several is no item, and one that came ahead of the list", """
                text 2 -> 0
                text 28 -> 1
                entry -1 0 1 -> 0
                entry -1 1 1 -> 1
                heading 1 true -> 1
                beneath 0 0 -> 1
                rule 0 7 : 10 11 / 1 -> 1
                beneath 0 0 -> -1
                rule 0 4 : 28 / 1 -> 2
                beneath 0 0 -> 1
                beneath 0 1 -> 1
                rule 0 1 : 23 / 1 -> 3
                beneath 0 0 -> -1
                """);
        // "`entry`: an entry of the index; of a sub-entry that of its parent"
        Script.run("Promise 32: a sub-entry, of the least form beneath the greatest one", """
                text 11 -> 0
                text 24 -> 1
                text 6 -> 2
                entry -1 0 1 -> 0
                entry 0 1 1 -> 1
                entry -1 1 1 -> 2
                entry 2 0 1 -> 3
                heading 6 true -> 1
                beneath 0 1 -> 6
                beneath 0 3 -> -1
                heading 6 false -> 0
                heading 5 true -> 1
                beneath 0 0 -> 105
                beneath 0 1 -> 105
                beneath 0 3 -> -1
                """);
    }

    private static void overflow() {
        // "If the first letter or capital of the sort form is of another script than the heading, it overflows, and stands beneath 100 and the heading, together."
        // "12 to 23 capitals, the sign s of the letter s less 12 and of its script"
        Script.run("Promise 32: the last of the script 0 and the first of the script 1, letters and capitals", """
                text 5 -> 0
                text 6 -> 1
                text 17 -> 2
                text 18 -> 3
                entry -1 0 1 -> 0
                entry -1 1 1 -> 1
                entry -1 2 1 -> 2
                entry -1 3 1 -> 3
                heading 0 true -> 1
                beneath 0 0 -> 0
                beneath 0 1 -> 100
                beneath 0 2 -> 0
                beneath 0 3 -> 100
                heading 5 true -> 2
                beneath 0 0 -> 5
                beneath 0 1 -> 105
                beneath 0 2 -> 5
                beneath 0 3 -> 105
                heading 6 true -> 3
                beneath 0 0 -> 5
                beneath 0 1 -> 6
                beneath 0 2 -> 5
                beneath 0 3 -> 6
                """);
        // "If the first letter or capital of the sort form is of another script than the heading, it overflows"
        Script.run("Promise 32: headings of the script 1, and the first and the last sign of each kind", """
                rule 0 4 : 28 / 11 -> 1
                rule 0 4 : 28 / 6 -> 2
                text 0 -> 0
                text 5 -> 1
                text 12 -> 2
                text 17 -> 3
                text 23 -> 4
                text 6 -> 5
                entry -1 0 1 -> 0
                entry -1 1 1 -> 1
                entry -1 2 1 -> 2
                entry -1 3 1 -> 3
                entry -1 4 1 -> 4
                entry -1 5 1 -> 5
                heading 11 true -> 1
                beneath 0 0 -> 111
                beneath 0 1 -> 111
                beneath 0 2 -> 111
                beneath 0 3 -> 111
                beneath 0 4 -> 11
                # 6 is behind 11
                beneath 0 5 -> 11
                heading 6 true -> 2
                beneath 0 0 -> 106
                beneath 0 5 -> 6
                """);
        // "If the first letter or capital of the sort form is of another script than the heading"
        Script.run("Promise 32: no letter at all, and one behind other signs", """
                rule 0 4 : 28 / 0 -> 1
                text 28 29 30 39 -> 0
                text 28 29 30 39 24 27 6 -> 1
                text 28 17 -> 2
                text 30 17 6 -> 3
                text 30 6 17 -> 4
                entry -1 0 1 -> 0
                entry -1 1 1 -> 1
                entry -1 2 1 -> 2
                entry -1 3 1 -> 3
                entry -1 4 1 -> 4
                heading 0 true -> 1
                beneath 0 0 -> 0
                beneath 0 1 -> 100
                beneath 0 2 -> 0
                beneath 0 3 -> 0
                beneath 0 4 -> 100
                heading 0 false -> 0
                # beneath none nothing overflows
                beneath 0 1 -> -1
                """);
    }

    private static void locatorAt() {
        // "Throws `IndexOutOfBoundsException` if there is no such entry, or group is below 0"
        // "`entry`: its number"
        // "`group`: from 0"
        Script.run("Promise 33: no such entry, and a group below 0", """
                locatorAt 0 0 -> IOOBE
                text 0 -> 0
                entry -1 0 1 -> 0
                locatorAt 0 0 -> -1
                locatorAt -1 0 -> IOOBE
                locatorAt 1 0 -> IOOBE
                locatorAt 24 0 -> IOOBE
                locatorAt least 0 -> IOOBE
                locatorAt greatest 0 -> IOOBE
                locatorAt 0 -1 -> IOOBE
                locatorAt 0 least -> IOOBE
                locatorAt 1 -1 -> IOOBE
                """);
        // "Returns 1000000 times its sort, 1000 times its first page, and its last one, together; NONE if there are not so many."
        // "Returns a group of locators of an entry."
        Script.run("Promise 33: none, 1 and 10 groups, and the greatest index", """
                text 0 -> 0
                entry -1 0 1 -> 0
                locatorAt 0 0 -> -1
                locatorAt 0 greatest -> -1
                locate 0 1 0 -> true
                locatorAt 0 0 -> 1001
                locatorAt 0 1 -> -1
                locate 0 999 0 -> true
                locate 0 1 1 -> true
                locate 0 3 1 -> true
                locate 0 5 1 -> true
                locate 0 999 1 -> true
                locate 0 1 2 -> true
                locate 0 3 2 -> true
                locate 0 5 2 -> true
                locate 0 999 2 -> true
                all locatorAt 0 -> 1001001 1003003 1005005 1999999 1001 999999 2001001 2003003 2005005 2999999
                locatorAt 0 9 -> 2999999
                locatorAt 0 10 -> -1
                locatorAt 0 greatest -> -1
                """);
    }

    private static void groups() {
        // "pages of one sort that follow one another are one group"
        Script.run("Promise 33: the next page, the one behind that, and pages of other sorts", """
                text 0 -> 0
                entry -1 0 1 -> 0
                entry -1 0 1 -> 1
                entry -1 0 1 -> 2
                locate 0 5 0 -> true
                locate 0 6 0 -> true
                all locatorAt 0 -> 5006
                locate 0 8 0 -> true
                all locatorAt 0 -> 5006 8008
                # the page between joins both
                locate 0 7 0 -> true
                all locatorAt 0 -> 5008
                # the last bold one and the first plain one follow one another, as do those of notes
                locate 1 5 1 -> true
                locate 1 6 0 -> true
                locate 1 7 2 -> true
                all locatorAt 1 -> 1005005 6006 2007007
                locate 2 998 2 -> true
                locate 2 999 2 -> true
                locate 2 1 0 -> true
                locate 2 2 0 -> true
                all locatorAt 2 -> 1002 2998999
                """);
        // "They are told in groups, all bold ones first, then plain ones, then those of notes, each by rising pages"
        Script.run("Promise 33: 10 pages in one group, told in falling order", """
                text 0 -> 0
                entry -1 0 1 -> 0
                locate 0 999 1 -> true
                locate 0 998 1 -> true
                locate 0 997 1 -> true
                locate 0 996 1 -> true
                locate 0 995 1 -> true
                locate 0 994 1 -> true
                locate 0 993 1 -> true
                locate 0 992 1 -> true
                locate 0 991 1 -> true
                locate 0 990 1 -> true
                all locatorAt 0 -> 1990999
                """);
    }

    private static void passim() {
        // "if it and three or more of those behind it begin at most 9 pages behind its first page, it and all that do so are told as one group, passim (3), from its first page to the last page of the last one of them"
        Script.run("Promise 33: 9 pages behind, and 10", """
                text 0 -> 0
                entry -1 0 1 -> 0
                entry -1 0 1 -> 1
                locate 0 100 0 -> true
                locate 0 102 0 -> true
                locate 0 104 0 -> true
                locate 0 109 0 -> true
                all locatorAt 0 -> 3100109
                locate 1 100 0 -> true
                locate 1 102 0 -> true
                locate 1 104 0 -> true
                locate 1 110 0 -> true
                all locatorAt 1 -> 100100 102102 104104 110110
                """);
        // "if it and three or more of those behind it begin at most 9 pages behind its first page"
        Script.run("Promise 33: two behind it, three and four", """
                text 0 -> 0
                entry -1 0 1 -> 0
                locate 0 1 0 -> true
                locate 0 3 0 -> true
                locate 0 5 0 -> true
                all locatorAt 0 -> 1001 3003 5005
                locate 0 7 0 -> true
                all locatorAt 0 -> 3001007
                locate 0 9 0 -> true
                all locatorAt 0 -> 3001009
                """);
        // "it and all that do so are told as one group, passim (3), from its first page to the last page of the last one of them"
        Script.run("Promise 33: the first group and the last one have several pages, and the next one begins 11 pages behind", """
                text 0 -> 0
                entry -1 0 1 -> 0
                locate 0 1 0 -> true
                locate 0 2 0 -> true
                locate 0 4 0 -> true
                locate 0 6 0 -> true
                locate 0 10 0 -> true
                locate 0 11 0 -> true
                locate 0 12 0 -> true
                locate 0 14 0 -> true
                all locatorAt 0 -> 3001012 14014
                # 13 joins the last one of them to the next
                locate 0 13 0 -> true
                all locatorAt 0 -> 3001014
                """);
        // "and so on with the next group"
        Script.run("Promise 33: two groups passim, and one that begins behind the first group", """
                text 0 -> 0
                entry -1 0 1 -> 0
                entry -1 0 1 -> 1
                locate 0 981 0 -> true
                locate 0 983 0 -> true
                locate 0 985 0 -> true
                locate 0 987 0 -> true
                locate 0 991 0 -> true
                locate 0 993 0 -> true
                locate 0 995 0 -> true
                all locatorAt 0 -> 3981987 991991 993993 995995
                locate 0 999 0 -> true
                all locatorAt 0 -> 3981987 3991999
                # the first one has just two behind it, the second one three
                locate 1 1 0 -> true
                locate 1 6 0 -> true
                locate 1 8 0 -> true
                locate 1 12 0 -> true
                locate 1 15 0 -> true
                all locatorAt 1 -> 1001 3006015
                """);
        // "and so on with the next group"
        Script.run("Promise 33: 10 groups that become two, and 10 of which the last four become one", """
                text 0 -> 0
                entry -1 0 1 -> 0
                entry -1 0 1 -> 1
                locate 0 1 0 -> true
                locate 0 3 0 -> true
                locate 0 5 0 -> true
                locate 0 7 0 -> true
                locate 0 9 0 -> true
                locate 0 12 0 -> true
                locate 0 14 0 -> true
                locate 0 16 0 -> true
                locate 0 18 0 -> true
                locate 0 20 0 -> true
                all locatorAt 0 -> 3001009 3012020
                locate 1 1 1 -> true
                locate 1 3 1 -> true
                locate 1 10 0 -> true
                locate 1 20 0 -> true
                locate 1 30 0 -> true
                locate 1 990 0 -> true
                locate 1 992 0 -> true
                locate 1 995 0 -> true
                locate 1 999 0 -> true
                locate 1 999 2 -> true
                all locatorAt 1 -> 1001001 1003003 10010 20020 30030 3990999 2999999
                """);
        // "Then, of plain groups"
        Script.run("Promise 33: three plain groups and others do not make passim", """
                text 0 -> 0
                entry -1 0 1 -> 0
                locate 0 1 0 -> true
                locate 0 3 0 -> true
                locate 0 5 0 -> true
                locate 0 7 2 -> true
                locate 0 7 1 -> true
                all locatorAt 0 -> 1007007 1001 3003 5005 2007007
                locate 0 9 0 -> true
                all locatorAt 0 -> 1007007 3001009 2007007
                locate 0 1 2 -> true
                locate 0 3 2 -> true
                locate 0 5 2 -> true
                all locatorAt 0 -> 1007007 3001009 2001001 2003003 2005005 2007007
                """);
    }

    private static void leads() {
        // "`entry`: its number"
        // "Throws `IndexOutOfBoundsException` if there is no such entry"
        Script.run("Promise 34: no such entry", """
                leads 0 -> IOOBE
                text 0 -> 0
                entry -1 0 1 -> 0
                leads 0 -> -1
                leads -1 -> IOOBE
                leads 1 -> IOOBE
                leads 24 -> IOOBE
                leads least -> IOOBE
                leads greatest -> IOOBE
                """);
        // "An entry leads to itself, if it or a sub-entry of it has a locator; otherwise to where the one that it sees leads, if it sees one"
        // "Returns where an entry leads."
        // "Returns the entry; NONE if nowhere."
        Script.run("Promise 34: its own locator, that of its sub-entry, that of its parent, and none", """
                text 0 -> 0
                entry -1 0 1 -> 0
                entry 0 0 1 -> 1
                entry 0 0 1 -> 2
                leads 0 -> -1
                locate 2 1 0 -> true
                leads 0 -> 0
                leads 1 -> -1
                leads 2 -> 2
                see 1 0 false -> true
                leads 1 -> 0
                # what it sees does not count, if it has one itself
                see 0 1 false -> true
                leads 0 -> 0
                """);
        // "if one comes round by that, or to one that sees none, it leads nowhere"
        Script.run("Promise 34: round by 2 and by 3, into a round, and to one that sees none but also", """
                text 0 -> 0
                times 5 entry -1 0 1
                see 0 1 false -> true
                see 1 0 false -> true
                leads 0 -> -1
                leads 1 -> -1
                see 2 0 false -> true
                leads 2 -> -1
                see 3 4 false -> true
                see 4 0 true -> true
                leads 3 -> -1
                locate 0 1 0 -> true
                leads 0 -> 0
                leads 1 -> 0
                leads 2 -> 0
                leads 3 -> -1
                """);
        // "if one comes round by that, or to one that sees none, it leads nowhere"
        Script round = new Script("Promise 34: round by all 24, and then the last one has a locator");
        round.lines("text 0 -> 0\ntimes 24 entry -1 0 1");
        for (int entry = 0; entry < 24; entry++) {
            round.due(true, "see", entry, (entry + 1) % 24, false);
        }
        round.lines("leads 0 -> -1\nleads 23 -> -1\nleads 11 -> -1\nlocate 23 1 2 -> true\nleads 0 -> 23\nleads 23 -> 23");
        round.lines("pin 2 2 -> 1\npin 3 3 -> 2\nedition -> 1\nleads 0 -> -1\nleads 23 -> -1");
    }

    private static void dead() {
        // "`int dead()`: Returns how many references, of both sorts, are to entries that lead nowhere."
        Script.run("Promise 35: no entries, no references, one of each sort to the same entry", """
                dead -> 0
                text 0 -> 0
                times 3 entry -1 0 1
                dead -> 0
                see 0 1 false -> true
                dead -> 1
                see 0 1 true -> true
                dead -> 2
                see 2 1 true -> true
                dead -> 3
                locate 1 1 0 -> true
                dead -> 0
                see 1 2 true -> true
                # 2 sees 1 only also
                dead -> 1
                see 2 1 false -> true
                dead -> 0
                """);
        // "`int dead()`: Returns how many references, of both sorts, are to entries that lead nowhere."
        Script many = new Script("Promise 35: 460 references");
        many.lines("text 0 -> 0\ntimes 24 entry -1 0 1");
        for (int i = 0; i < 20 * 23; i++) {
            many.call("see", i / 23, (i / 23 + 1 + i % 23) % 24, true);
        }
        many.lines("dead -> 460\nlocate 23 1 0 -> true\ndead -> 440\nsee 0 23 false -> true\ndead -> 421");
    }

    private static void moved() {
        // "Throws `IndexOutOfBoundsException` if there is no such index"
        // "`index`: 0 to 2"
        Script.run("Promise 36: no such index", """
                moved 0 -> 0
                moved 2 -> 0
                moved -1 -> IOOBE
                moved 3 -> IOOBE
                moved least -> IOOBE
                moved greatest -> IOOBE
                """);
        // "Returns how many, of the places that there were then; 0 if there was no such call."
        Script.run("Promise 36: no such call, though the order changes", """
                text 0 -> 0
                text 1 -> 1
                entry -1 1 1 -> 0
                moved 0 -> 0
                entry -1 0 1 -> 1
                all entryAt 0 -> 1 0
                moved 0 -> 0
                rule 1 4 : 0 / 1 -> 1
                moved 0 -> 0
                moved 1 -> 0
                """);
        // "Returns how many, of the places that there were then; 0 if there was no such call."
        Script.run("Promise 36: no places then, one, and two", """
                text 0 -> 0
                text 1 -> 1
                option 0 0 false -> false
                entry -1 1 1 -> 0
                entry -1 0 1 -> 1
                moved 0 -> 0
                option 1 0 false -> false
                option 2 0 false -> false
                entry -1 1 2 -> 2
                option 1 0 false -> false
                moved 1 -> 0
                entry -1 0 2 -> 3
                # 3 2 now, and 2 then
                moved 1 -> 1
                option 1 0 false -> false
                moved 1 -> 0
                entry 2 0 1 -> 4
                # behind the last place
                moved 1 -> 0
                entry 3 0 1 -> 5
                # 3 5 2 4 now, and 3 2 then
                moved 1 -> 1
                moved 2 -> 0
                """);
        // "Returns at how many places of an index another entry stands than ahead of the last rule(), adopt() or option() of its tailoring."
        Script.run("Promise 36: the last call of each sort, and of its own tailoring", """
                text 0 -> 0
                text 1 -> 1
                entry -1 0 7 -> 0
                entry -1 1 7 -> 1
                rule 0 4 : 0 / 1 -> 1
                moved 0 -> 2
                moved 1 -> 0
                moved 2 -> 0
                adopt 2 0 -> 1
                moved 2 -> 2
                # that of the tailoring from which was adopted is the rule still
                moved 0 -> 2
                option 0 2 true -> false
                moved 0 -> 0
                moved 2 -> 2
                # no rules are told, and it is a call all the same
                adopt 2 1 -> 1
                moved 2 -> 0
                moved 1 -> 0
                """);
        // "Returns at how many places of an index another entry stands than ahead of the last rule(), adopt() or option() of its tailoring."
        Script all = new Script("Promise 36: all 24 places");
        all.lines("text 0 -> 0\ntext 1 -> 1");
        for (int entry = 0; entry < 24; entry++) {
            all.due(entry, "entry", -1, entry / 12, 1);
        }
        all.lines("rule 0 4 : 0 / 1 -> 1\nmoved 0 -> 24\nrule 0 1 : 0 / 1 -> 2\nmoved 0 -> 24\nrule 0 1 : 0 / 1 -> 3\nmoved 0 -> 0");
        // "A call that throws an exception changes nothing."
        Script.run("Promise 36: a call that threw is not the last one", """
                text 0 -> 0
                text 1 -> 1
                entry -1 0 1 -> 0
                entry -1 1 1 -> 1
                rule 0 4 : 0 / 1 -> 1
                moved 0 -> 2
                rule 0 8 -> IAE
                rule 0 1 -> ISE
                norule 0 1 : 0 / 0
                adopt 0 0 -> IAE
                adopt 0 3 -> IOOBE
                option 0 3 true -> IOOBE
                moved 0 -> 2
                """);
    }
}
