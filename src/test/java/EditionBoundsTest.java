/** The promises 18 to 20 and 37 at their bounds: ahead of each test a remark says the sentence that it is about. */
public final class EditionBoundsTest {
    private EditionBoundsTest() {
    }

    public static void main(String[] args) {
        pin();
        pinThrows();
        edition();
        pagesOfEditions();
        sameLocators();
        columns();
        columnsThrows();
        columnOfThrows();
        lengths();
        headings();
        noLineLeft();
        fewerLinesLeft();
        oneLineLeft();
        parentsAgain();
        longEntries();
        Script.end();
    }

    private static void pin() {
        // "`page`: a page, above that of the last pin, 1 to 999"
        // "`next`: the page that it is in the next edition, above that of the last pin, 1 to 999"
        Script.run("Promise 18: the least pages and the greatest", """
                pin 1 1 -> 1
                pin 999 999 -> 2
                """);
        // "`page`: a page, above that of the last pin, 1 to 999"
        Script.run("Promise 18: the page of the last pin, one above and one below", """
                pin 500 500 -> 1
                pin 500 501 -> IAE
                pin 499 501 -> IAE
                pin 501 501 -> 2
                """);
        // "`next`: the page that it is in the next edition, above that of the last pin, 1 to 999"
        Script.run("Promise 18: the new page of the last pin, one above and one below", """
                pin 500 500 -> 1
                pin 501 500 -> IAE
                pin 501 499 -> IAE
                pin 501 501 -> 2
                pin 501 501 -> IAE
                """);
        // "Pins tell for some pages of the edition which pages these are in the next one, at most 6, both rising."
        // "Returns how many pins there are then."
        // "Adds a pin for the next edition."
        // "Throws `IllegalStateException` if there are 6"
        Script.run("Promise 18: from 1 to 6, and no 7th", """
                pin 1 10 -> 1
                pin 2 20 -> 2
                pin 3 30 -> 3
                pin 4 40 -> 4
                pin 5 50 -> 5
                pin 6 60 -> 6
                pin 7 70 -> ISE
                pin 999 999 -> ISE
                edition -> 0
                pin 1 10 -> 1
                """);
        // "Returns how many pins there are then."
        Script.run("Promise 18: when the edition was made, any page is above", """
                pin 998 998 -> 1
                pin 999 999 -> 2
                edition -> 0
                pin 1 1 -> 1
                pin 1 2 -> IAE
                """);
    }

    private static void pinThrows() {
        // "Throws `IllegalArgumentException` if page or next is out of range, or not above"
        Script.run("Promise 18: pages out of range, of each", """
                pin 0 1 -> IAE
                pin 1000 1 -> IAE
                pin -1 1 -> IAE
                pin least 1 -> IAE
                pin greatest 1 -> IAE
                pin 1 0 -> IAE
                pin 1 1000 -> IAE
                pin 1 -1 -> IAE
                pin 1 least -> IAE
                pin 1 greatest -> IAE
                pin 1 1 -> 1
                # above the last one, and out of range
                pin 1000 2 -> IAE
                pin 2 1000 -> IAE
                pin greatest greatest -> IAE
                pin 2 2 -> 2
                """);
        // "If several apply, the one that the throws clause names first is thrown."
        Script.run("Promise 18: out of range or not above, and there are 6", """
                pin 10 10 -> 1
                pin 11 11 -> 2
                pin 12 12 -> 3
                pin 13 13 -> 4
                pin 14 14 -> 5
                pin 15 15 -> 6
                pin 1000 16 -> IAE
                pin 16 0 -> IAE
                pin 15 16 -> IAE
                pin 16 15 -> IAE
                pin 16 16 -> ISE
                """);
        // "A call that throws an exception changes nothing."
        Script.run("Promise 18: what threw is no pin", """
                pin 10 10 -> 1
                pin 20 5 -> IAE
                pin 5 20 -> IAE
                pin 30 1000 -> IAE
                edition -> ISE
                pin 11 11 -> 2
                """);
    }

    private static void edition() {
        // "Throws `IllegalStateException` if there are fewer than 2 pins"
        Script.run("Promise 19: no pin, 1 pin and 2 pins, and none again", """
                edition -> ISE
                pin 1 2 -> 1
                edition -> ISE
                pin 2 3 -> 2
                edition -> 0
                edition -> ISE
                pin 1 2 -> 1
                edition -> ISE
                """);
        // "Makes the next edition the present one; there are no pins then."
        Script.run("Promise 19: with 6 pins, and then with 2", """
                text 0 -> 0
                entry -1 0 1 -> 0
                locate 0 1 0 -> true
                locate 0 3 0 -> true
                locate 0 6 0 -> true
                pin 1 10 -> 1
                pin 2 20 -> 2
                pin 3 30 -> 3
                pin 4 40 -> 4
                pin 5 50 -> 5
                pin 6 60 -> 6
                edition -> 0
                all locatorAt 0 -> 10010 30030 60060
                pin 10 1 -> 1
                pin 60 51 -> 2
                edition -> 0
                all locatorAt 0 -> 1001 21021 51051
                """);
        // "With the next edition all locators move"
        Script.run("Promise 19: those of the first entry and the last of 24 move, and each one once", """
                text 0 -> 0
                times 24 entry -1 0 1
                locate 0 10 0 -> true
                locate 12 20 2 -> true
                locate 23 10 1 -> true
                pin 10 20 -> 1
                pin 20 30 -> 2
                edition -> 0
                all locatorAt 0 -> 20020
                all locatorAt 12 -> 2030030
                all locatorAt 23 -> 1020020
                pin 20 999 -> 1
                pin 19 1 -> IAE
                edition -> ISE
                all locatorAt 0 -> 20020
                """);
        // "A call that throws an exception changes nothing."
        Script.run("Promise 19: with 1 pin the locators and the pin stay", """
                text 0 -> 0
                entry -1 0 1 -> 0
                locate 0 5 0 -> true
                locate 0 10 0 -> true
                pin 10 20 -> 1
                edition -> ISE
                all locatorAt 0 -> 5005 10010
                pin 11 21 -> 2
                edition -> 1
                all locatorAt 0 -> 20020
                """);
        // "Returns how many locators are lost; those that become one are not counted."
        // "With the next edition all locators move"
        Script.run("Promise 19: no entries, no locators, and all of those that there are", """
                pin 1 1 -> 1
                pin 2 2 -> 2
                edition -> 0
                text 0 -> 0
                times 24 entry -1 0 1
                pin 1 1 -> 1
                pin 2 2 -> 2
                edition -> 0
                locate 0 3 0 -> true
                locate 0 4 1 -> true
                locate 23 999 2 -> true
                locate 23 998 2 -> true
                pin 1 1 -> 1
                pin 2 2 -> 2
                edition -> 4
                all locatorAt 0 ->
                all locatorAt 23 ->
                """);
    }

    private static void pagesOfEditions() {
        // "pages ahead of the first pin and behind the last one are lost, and locators with them"
        Script.run("Promise 19: at the first pin and the last, one page ahead and one behind", """
                text 0 -> 0
                entry -1 0 1 -> 0
                locate 0 9 0 -> true
                locate 0 10 0 -> true
                locate 0 20 0 -> true
                locate 0 21 0 -> true
                pin 10 110 -> 1
                pin 20 120 -> 2
                edition -> 2
                all locatorAt 0 -> 110110 120120
                """);
        // "a page between two pins (or at one) comes to the new page of the nearest pin that is not behind it, and as many pages behind that as its distance from that pin times the distance of the new pages of both pins, divided by that of the old ones"
        Script.run("Promise 19: at a pin in between, one page ahead of it, and one behind", """
                text 0 -> 0
                entry -1 0 1 -> 0
                locate 0 19 0 -> true
                locate 0 20 0 -> true
                locate 0 21 0 -> true
                pin 10 100 -> 1
                pin 20 200 -> 2
                pin 30 230 -> 3
                edition -> 0
                # 9 times 100 by 10; 0; 1 times 30 by 10
                all locatorAt 0 -> 190190 200200 203203
                """);
        // "All divisions are rounded down."
        Script.run("Promise 19: quotients just at a page, and just below", """
                text 0 -> 0
                entry -1 0 1 -> 0
                locate 0 2 0 -> true
                locate 0 3 0 -> true
                locate 0 4 0 -> true
                locate 0 5 0 -> true
                locate 0 6 0 -> true
                pin 1 1 -> 1
                pin 7 5 -> 2
                edition -> 0
                # 4, 8, 12, 16 and 20, by 6: 0, 1, 2, 2, 3 behind 1
                all locatorAt 0 -> 1004
                """);
        // "All divisions are rounded down."
        Script.run("Promise 19: the greatest distances", """
                text 0 -> 0
                entry -1 0 1 -> 0
                entry -1 0 1 -> 1
                locate 0 1 0 -> true
                locate 0 2 0 -> true
                locate 0 500 0 -> true
                locate 0 998 0 -> true
                locate 0 999 0 -> true
                locate 1 999 1 -> true
                pin 1 1 -> 1
                pin 999 999 -> 2
                edition -> 0
                all locatorAt 0 -> 1002 500500 998999
                pin 1 998 -> 1
                pin 999 999 -> 2
                edition -> 0
                # only the last page is behind 998
                all locatorAt 0 -> 998999
                all locatorAt 1 -> 1999999
                pin 998 1 -> 1
                pin 999 999 -> 2
                edition -> 0
                all locatorAt 0 -> 1001 999999
                """);
        // "Pins tell for some pages of the edition which pages these are in the next one"
        Script.run("Promise 19: pins that leave every page, and pins side by side", """
                text 0 -> 0
                entry -1 0 1 -> 0
                locate 0 1 0 -> true
                locate 0 2 0 -> true
                locate 0 4 1 -> true
                pin 1 1 -> 1
                pin 2 2 -> 2
                pin 3 900 -> 3
                pin 4 901 -> 4
                edition -> 0
                all locatorAt 0 -> 1901901 1002
                """);
    }

    private static void sameLocators() {
        // "locators that become the same become one"
        Script.run("Promise 19: all 10 become one, and stay apart of each sort and entry", """
                text 0 -> 0
                entry -1 0 1 -> 0
                entry -1 0 1 -> 1
                locate 0 100 0 -> true
                locate 0 101 0 -> true
                locate 0 102 0 -> true
                locate 0 103 0 -> true
                locate 0 104 0 -> true
                locate 0 105 0 -> true
                locate 0 106 0 -> true
                locate 0 107 0 -> true
                locate 0 108 0 -> true
                locate 0 109 0 -> true
                locate 1 100 0 -> true
                locate 1 109 1 -> true
                locate 1 105 2 -> true
                locate 1 110 0 -> true
                pin 100 7 -> 1
                pin 110 8 -> 2
                edition -> 0
                all locatorAt 0 -> 7007
                all locatorAt 1 -> 1007007 7008 2007007
                locate 0 7 0 -> false
                locate 0 8 0 -> true
                """);
        // "Returns how many locators are lost; those that become one are not counted."
        Script.run("Promise 19: some are lost, and some become one", """
                text 0 -> 0
                entry -1 0 1 -> 0
                locate 0 1 0 -> true
                locate 0 5 0 -> true
                locate 0 6 0 -> true
                locate 0 9 0 -> true
                locate 0 10 0 -> true
                pin 5 5 -> 1
                pin 9 6 -> 2
                edition -> 2
                all locatorAt 0 -> 5006
                """);
    }

    private static void columns() {
        // "`width`: 4 to 40"
        // "`height`: 4 to 40"
        // "Returns the width that they had."
        Script.run("Promise 20: the least and the greatest, and what they had", """
                columns 4 4 -> 12
                columns 40 40 -> 4
                columns 4 40 -> 40
                columns 40 4 -> 4
                columns 40 4 -> 40
                columns 12 10 -> 40
                """);
        // "Sets the columns."
        Script.run("Promise 20: the least and the greatest width", """
                text 0 1 2 3 4 5 6 7 8 9 -> 0
                times 2 entry -1 0 1
                columns 4 40 -> 12
                columnOf 0 1 -> 3
                columns 9 40 -> 4
                columnOf 0 1 -> 2
                columns 10 40 -> 9
                columnOf 0 1 -> 1
                columns 40 40 -> 10
                columnOf 0 1 -> 1
                """);
        // "Sets the columns."
        Script.run("Promise 20: the least and the greatest height", """
                text 0 1 2 3 4 5 6 7 8 9 -> 0
                times 24 entry -1 0 1
                columns 10 4 -> 12
                columnOf 0 3 -> 3
                columnOf 0 4 -> 100
                columnOf 0 23 -> 503
                columns 10 40 -> 10
                columnOf 0 23 -> 23
                # two lines each: 20 of them are 40 lines
                columns 9 40 -> 10
                columnOf 0 19 -> 38
                columnOf 0 20 -> 100
                columns 9 39 -> 9
                columnOf 0 18 -> 36
                columnOf 0 19 -> 100
                """);
    }

    private static void columnsThrows() {
        // "Throws `IllegalArgumentException` if width or height is out of range"
        Script.run("Promise 20: widths and heights out of range", """
                columns 3 10 -> IAE
                columns 41 10 -> IAE
                columns 0 10 -> IAE
                columns -4 10 -> IAE
                columns least 10 -> IAE
                columns greatest 10 -> IAE
                columns 12 3 -> IAE
                columns 12 41 -> IAE
                columns 12 0 -> IAE
                columns 12 -4 -> IAE
                columns 12 least -> IAE
                columns 12 greatest -> IAE
                columns 3 41 -> IAE
                columns 12 10 -> 12
                """);
        // "A call that throws an exception changes nothing."
        Script.run("Promise 20: what threw set neither the width nor the height", """
                text 0 1 2 3 4 -> 0
                times 11 entry -1 0 1
                columns 4 3 -> IAE
                columns 41 4 -> IAE
                columnOf 0 9 -> 9
                columnOf 0 10 -> 100
                columns 4 41 -> IAE
                columnOf 0 9 -> 9
                columns 5 10 -> 12
                """);
    }

    private static void columnOfThrows() {
        // "Throws `IndexOutOfBoundsException` if there is no such index, or entry in it"
        // "`index`: 0 to 2"
        // "`entry`: an entry of the index"
        Script.run("Promise 37: no such index, no such entry, and none in the index", """
                columnOf 0 0 -> IOOBE
                text 0 -> 0
                entry -1 0 2 -> 0
                entry 0 0 5 -> 1
                columnOf 1 0 -> 0
                columnOf 1 1 -> 1
                columnOf 0 0 -> IOOBE
                columnOf 2 0 -> IOOBE
                columnOf 0 1 -> IOOBE
                columnOf 2 1 -> IOOBE
                columnOf -1 0 -> IOOBE
                columnOf 3 0 -> IOOBE
                columnOf least 0 -> IOOBE
                columnOf greatest 0 -> IOOBE
                columnOf 1 -1 -> IOOBE
                columnOf 1 2 -> IOOBE
                columnOf 1 24 -> IOOBE
                columnOf 1 least -> IOOBE
                columnOf 1 greatest -> IOOBE
                columnOf 3 2 -> IOOBE
                columnOf 33 0 -> IOOBE
                """);
    }

    private static void lengths() {
        // "An entry has as many lines as its length divided by the width, rounded up"
        Script.run("Promise 37: a length of 1, of the width, and of 1 more", """
                columns 4 40 -> 12
                text 0 -> 0
                text 0 1 2 3 -> 1
                text 0 1 2 3 4 -> 2
                text 1 -> 3
                entry -1 0 1 -> 0
                entry -1 1 1 -> 1
                entry -1 2 1 -> 2
                entry -1 3 1 -> 3
                columnOf 0 0 -> 0
                columnOf 0 1 -> 1
                columnOf 0 2 -> 2
                columnOf 0 3 -> 4
                columns 5 40 -> 4
                columnOf 0 3 -> 3
                """);
        // "its length is the number of its text's signs, put together"
        Script.run("Promise 37: 30 signs taken apart, 10 put together; and the most signs that stay, 20", """
                compose 40 0 26 -> 1
                compose 41 40 24 -> 2
                compose 42 1 24 -> 3
                compose 43 42 26 -> 4
                text 43 43 43 43 43 43 43 43 43 43 -> 0
                text 41 41 41 41 41 41 41 41 41 41 -> 1
                text 2 -> 2
                entry -1 0 1 -> 0
                entry -1 1 2 -> 1
                entry -1 2 3 -> 2
                columns 10 40 -> 12
                columnOf 0 2 -> 1
                columnOf 1 2 -> 2
                columns 9 40 -> 10
                columnOf 0 2 -> 2
                columnOf 1 2 -> 3
                columns 20 40 -> 9
                columnOf 1 2 -> 1
                columns 19 40 -> 20
                columnOf 1 2 -> 2
                """);
        // "and 1 more, if it is turned, 3 for each group of its locators, 5, if it sees one, 3 for each one that it sees also, and 2, if it has a parent"
        Script.run("Promise 37: each of these makes it longer than the width", """
                text 0 1 2 3 4 5 6 7 8 9 -> 0
                text 11 -> 1
                times 9 entry -1 0 1
                entry -1 1 1 -> 9
                columns 10 40 -> 12
                columnOf 0 9 -> 9
                locate 1 1 0 -> true
                columnOf 0 9 -> 10
                see 2 0 false -> true
                columnOf 0 9 -> 11
                see 3 0 true -> true
                columnOf 0 9 -> 12
                entry 4 0 1 -> 10
                # 12 signs
                columnOf 0 9 -> 14
                columns 11 40 -> 10
                columnOf 0 9 -> 14
                columns 12 40 -> 11
                columnOf 0 9 -> 13
                columns 13 40 -> 12
                # 15 signs
                columnOf 0 9 -> 11
                columns 15 40 -> 13
                columnOf 0 9 -> 10
                """);
        // "and 1 more, if it is turned"
        Script.run("Promise 37: turned, with a particle, and as it is", """
                text 0 1 2 3 -> 0
                text 11 -> 1
                entry -1 0 1 -> 0
                entry -1 1 1 -> 1
                columns 4 40 -> 12
                columnOf 0 1 -> 1
                form 0 1 1 -> 0
                columnOf 0 1 -> 1
                form 0 2 1 -> 1
                columnOf 0 1 -> 2
                form 0 0 0 -> 2
                columnOf 0 1 -> 1
                """);
        // "3 for each group of its locators"
        Script.run("Promise 37: 10 groups, and 10 locators that are one group, and passim", """
                text 0 -> 0
                text 11 -> 1
                times 3 entry -1 0 1
                entry -1 1 1 -> 3
                columns 31 40 -> 12
                locate 0 1 1 -> true
                locate 0 11 1 -> true
                locate 0 21 1 -> true
                locate 0 31 1 -> true
                locate 0 41 1 -> true
                locate 0 51 1 -> true
                locate 0 61 1 -> true
                locate 0 71 1 -> true
                locate 0 81 1 -> true
                locate 0 91 1 -> true
                # 31
                columnOf 0 1 -> 1
                columns 30 40 -> 31
                columnOf 0 1 -> 2
                columns 4 40 -> 30
                columnOf 0 1 -> 8
                locate 1 1 2 -> true
                locate 1 2 2 -> true
                locate 1 3 2 -> true
                locate 1 4 2 -> true
                # 4
                columnOf 0 2 -> 9
                locate 2 1 0 -> true
                locate 2 3 0 -> true
                locate 2 5 0 -> true
                # 10, and with a 4th group 4
                columnOf 0 3 -> 12
                locate 2 7 0 -> true
                columnOf 0 3 -> 10
                """);
        // "its length is the number of its text's signs, put together, and 1 more, if it is turned, 3 for each group of its locators, 5, if it sees one, 3 for each one that it sees also, and 2, if it has a parent"
        Script longest = new Script("Promise 37: the longest entry");
        longest.lines("""
                compose 40 0 26 -> 1
                compose 41 40 24 -> 2
                text 41 41 41 41 41 41 41 41 41 41 -> 0
                text 23 -> 1
                entry -1 0 1 -> 0
                entry -1 1 1 -> 1
                times 22 entry -1 1 2
                columns 5 40 -> 12
                form 0 2 3 -> 0
                see 0 1 false -> true
                """);
        for (int target = 1; target < 24; target++) {
            longest.due(true, "see", 0, target, true);
        }
        for (int page = 1; page <= 10; page++) {
            longest.due(true, "locate", 0, 3 * page, 2);
        }
        // 20, 1, 30, 5 and 69
        longest.lines("columnOf 0 1 -> 25\nform 0 0 0 -> 2\ncolumnOf 0 1 -> 25\nform 0 2 3 -> 0\ncolumns 4 40 -> 5\ncolumnOf 0 1 -> 32");
    }

    private static void headings() {
        // "Besides, an entry without a parent has one line more for its heading, ahead of these, if it stands beneath one (or overflows), and is the first one of the index"
        Script.run("Promise 37: the first one of the index, beneath none, beneath one, and overflowing", """
                text 0 -> 0
                text 6 -> 1
                entry -1 0 1 -> 0
                entry -1 1 2 -> 1
                columnOf 0 0 -> 0
                heading 1 true -> 1
                columnOf 0 0 -> 0
                columnOf 1 1 -> 1
                heading 0 true -> 2
                columnOf 0 0 -> 1
                """);
        // "or the one without a parent ahead of it stands beneath another one, or none"
        Script.run("Promise 37: ahead of it one beneath none, beneath the same, and beneath another one", """
                text 0 -> 0
                text 1 -> 1
                text 2 -> 2
                entry -1 0 1 -> 0
                entry -1 1 1 -> 1
                entry -1 2 1 -> 2
                heading 1 true -> 1
                columnOf 0 0 -> 0
                columnOf 0 1 -> 2
                columnOf 0 2 -> 3
                heading 2 true -> 2
                columnOf 0 1 -> 2
                columnOf 0 2 -> 4
                heading 0 true -> 3
                columnOf 0 0 -> 1
                columnOf 0 1 -> 3
                columnOf 0 2 -> 5
                heading 1 false -> 2
                columnOf 0 1 -> 2
                """);
        // "the one without a parent ahead of it"
        Script.run("Promise 37: sub-entries between have no heading, and are not the one ahead", """
                text 0 -> 0
                text 5 -> 1
                entry -1 0 1 -> 0
                entry 0 1 1 -> 1
                entry 0 1 1 -> 2
                entry -1 0 1 -> 3
                heading 0 true -> 1
                heading 5 true -> 2
                columnOf 0 0 -> 1
                columnOf 0 1 -> 2
                columnOf 0 2 -> 3
                columnOf 0 3 -> 4
                """);
        // "(or overflows)"
        Script.run("Promise 37: beneath a heading, overflowing it, and beneath it again", """
                rule 0 1 : 1 / 7 -> 1
                text 0 -> 0
                text 7 -> 1
                text 2 -> 2
                entry -1 0 1 -> 0
                entry -1 1 1 -> 1
                entry -1 2 1 -> 2
                heading 0 true -> 1
                beneath 0 0 -> 0
                beneath 0 1 -> 100
                beneath 0 2 -> 0
                columnOf 0 0 -> 1
                columnOf 0 1 -> 3
                columnOf 0 2 -> 5
                """);
    }

    private static void noLineLeft() {
        // "It begins a new column instead, if the last column has lines, and one of these is so: no line of it is left"
        // "Entries come into columns in order, each one behind the lines that are there."
        // "columns are numbered from 0, and so are the lines of each one"
        Script.run("Promise 37: a column that is full to the last line, and one line before that", """
                text 0 -> 0
                columns 12 4 -> 12
                times 9 entry -1 0 1
                columnOf 0 0 -> 0
                columnOf 0 3 -> 3
                columnOf 0 4 -> 100
                columnOf 0 7 -> 103
                columnOf 0 8 -> 200
                """);
        // "if the last column has lines"
        Script.run("Promise 37: the first entry, which has more lines than the height, and just as many", """
                text 0 1 2 3 4 5 6 7 8 9 -> 0
                text 11 -> 1
                entry -1 0 1 -> 0
                entry -1 1 1 -> 1
                columns 4 4 -> 12
                locate 0 1 0 -> true
                locate 0 1 1 -> true
                # 16 signs, 4 lines
                columnOf 0 0 -> 0
                columnOf 0 1 -> 100
                locate 0 1 2 -> true
                # 5 lines
                columnOf 0 0 -> 0
                columnOf 0 1 -> 101
                heading 0 true -> 1
                # with its heading 6 lines, and 11 overflows with one of its own
                columnOf 0 0 -> 1
                columnOf 0 1 -> 103
                """);
        // "What does not fit into a column goes on in the next one."
        Script.run("Promise 37: the last line of a column is the last line of a long entry", """
                text 0 1 2 3 4 5 6 7 8 9 -> 0
                text 11 -> 1
                entry -1 0 1 -> 0
                entry -1 1 1 -> 1
                columns 4 4 -> 12
                locate 0 1 0 -> true
                locate 0 3 0 -> true
                locate 0 1 1 -> true
                locate 0 3 1 -> true
                locate 0 1 2 -> true
                # 25 signs, 7 lines
                columnOf 0 1 -> 103
                locate 0 3 2 -> true
                # 28 signs, 7 lines
                columnOf 0 1 -> 103
                locate 0 5 2 -> true
                # 31 signs, 8 lines
                columnOf 0 1 -> 200
                locate 0 5 1 -> true
                # 34 signs, 9 lines
                columnOf 0 1 -> 201
                """);
    }

    private static void fewerLinesLeft() {
        // "or fewer lines are left than the entry has, and the entry, with 1 more for a sub-entry, has no more lines than the height"
        Script.run("Promise 37: as many lines are left as the entry has, and one fewer", """
                text 0 -> 0
                text 1 1 1 1 1 1 1 1 -> 1
                columns 4 4 -> 12
                times 2 entry -1 0 1
                entry -1 1 1 -> 2
                # two lines, and two are left
                columnOf 0 2 -> 2
                entry -1 0 1 -> 3
                # one is left
                columnOf 0 2 -> 100
                """);
        // "has no more lines than the height"
        Script.run("Promise 37: an entry with as many lines as the height, and with one more", """
                text 0 -> 0
                text 1 1 1 1 1 1 1 1 1 1 -> 1
                columns 4 4 -> 12
                entry -1 0 1 -> 0
                entry -1 1 1 -> 1
                locate 1 1 0 -> true
                locate 1 1 1 -> true
                # 16 signs, 4 lines
                columnOf 0 1 -> 100
                locate 1 1 2 -> true
                # 5 lines
                columnOf 0 1 -> 1
                """);
        // "with 1 more for a sub-entry, has no more lines than the height"
        Script.run("Promise 37: a sub-entry with one line fewer than the height, and with as many", """
                text 0 -> 0
                text 1 1 1 1 1 1 1 1 1 1 -> 1
                text 11 -> 2
                columns 4 4 -> 12
                entry -1 0 1 -> 0
                entry 0 0 1 -> 1
                entry 0 1 1 -> 2
                entry -1 2 1 -> 3
                # 12 signs, 3 lines, and 2 are left: behind the line for its parent
                columnOf 0 2 -> 101
                columnOf 0 3 -> 200
                locate 2 1 0 -> true
                # 4 lines: it begins where it is
                columnOf 0 2 -> 2
                columnOf 0 3 -> 102
                """);
        // "or fewer lines are left than the entry has"
        Script.run("Promise 37: the line for a heading is one that the entry has", """
                text 0 -> 0
                text 1 1 1 1 1 1 1 1 -> 1
                columns 4 5 -> 12
                times 2 entry -1 0 1
                entry -1 1 1 -> 2
                columnOf 0 2 -> 2
                heading 1 true -> 1
                # 3 lines are left, and it has 3
                columnOf 0 2 -> 3
                columns 4 4 -> 4
                # 2 are left
                columnOf 0 2 -> 101
                """);
        // "has no more lines than the height"
        Script.run("Promise 37: with the line for its heading as many lines as the height, and one more", """
                text 0 -> 0
                text 1 1 1 1 1 1 1 1 1 1 -> 1
                columns 4 4 -> 12
                times 2 entry -1 0 1
                entry -1 1 1 -> 2
                heading 1 true -> 1
                # 3 and 1
                columnOf 0 2 -> 101
                locate 2 1 0 -> true
                locate 2 1 1 -> true
                # 4 and 1: it begins where it is, as 2 lines are left
                columnOf 0 2 -> 3
                """);
    }

    private static void oneLineLeft() {
        // "or just one line is left, and the entry has a line for its heading"
        Script.run("Promise 37: one line left for a long entry, with a heading and without; and two lines", """
                text 0 -> 0
                text 1 1 1 1 1 1 1 1 1 1 -> 1
                columns 4 4 -> 12
                times 3 entry -1 0 1
                entry -1 1 1 -> 3
                locate 3 1 0 -> true
                locate 3 1 1 -> true
                locate 3 1 2 -> true
                # 5 lines
                columnOf 0 3 -> 3
                heading 1 true -> 1
                columnOf 0 3 -> 101
                columns 4 5 -> 4
                # two lines are left, and it has 6
                columnOf 0 3 -> 4
                """);
        // "or just one line is left, and the entry has a line for its heading"
        Script.run("Promise 37: one line left for an entry of one line, with a heading, the same heading, and none", """
                text 0 -> 0
                text 1 -> 1
                columns 4 4 -> 12
                times 3 entry -1 0 1
                entry -1 1 1 -> 3
                columnOf 0 3 -> 3
                heading 1 true -> 1
                columnOf 0 3 -> 101
                heading 1 false -> 0
                columnOf 0 3 -> 3
                columns 4 5 -> 4
                heading 1 true -> 1
                columnOf 0 3 -> 4
                """);
    }

    private static void parentsAgain() {
        // "If a sub-entry begins with the first line of a column, a line comes ahead of it that tells its parent again."
        Script.run("Promise 37: a sub-entry on the last line of a column, and on the first of the next", """
                text 0 -> 0
                columns 12 4 -> 12
                entry -1 0 1 -> 0
                times 7 entry 0 0 1
                columnOf 0 1 -> 1
                columnOf 0 3 -> 3
                columnOf 0 4 -> 101
                columnOf 0 6 -> 103
                columnOf 0 7 -> 201
                """);
        // "If a sub-entry begins with the first line of a column, a line comes ahead of it that tells its parent again."
        Script.run("Promise 37: behind a parent that fills a column, and one that fills it but for a line", """
                text 0 1 2 3 4 5 6 7 8 9 -> 0
                text 0 -> 1
                columns 4 4 -> 12
                entry -1 0 1 -> 0
                entry 0 1 1 -> 1
                # 3 lines
                columnOf 0 1 -> 3
                locate 0 1 0 -> true
                # 4 lines
                columnOf 0 1 -> 101
                locate 0 1 1 -> true
                locate 0 1 2 -> true
                # 19 signs, 5 lines
                columnOf 0 1 -> 101
                """);
        // "If a sub-entry begins with the first line of a column"
        Script.run("Promise 37: a sub-entry that goes on in the next column begins there no more", """
                text 0 -> 0
                text 1 1 1 1 1 1 1 1 1 1 -> 1
                text 2 -> 2
                columns 4 4 -> 12
                entry -1 0 1 -> 0
                entry 0 1 1 -> 1
                entry 0 2 1 -> 2
                locate 1 1 0 -> true
                # 15 signs, 4 lines, and 3 are left; 1 line goes on
                columnOf 0 1 -> 1
                columnOf 0 2 -> 101
                """);
    }

    private static void longEntries() {
        // "Returns 100 times the column, and the line of the column, from 0, of its first line, together."
        Script s = new Script("Promise 37: more than 100 columns");
        s.lines("""
                compose 40 0 26 -> 1
                compose 41 40 24 -> 2
                text 41 41 41 41 41 41 41 41 41 41 -> 0
                text 23 -> 1
                times 23 entry -1 0 1
                entry -1 1 1 -> 23
                columns 4 4 -> 12
                """);
        for (int entry = 0; entry < 23; entry++) {
            s.due(true, "see", entry, 23, false);
            for (int target = 1; target <= 16; target++) {
                s.due(true, "see", entry, (entry + target) % 24, true);
            }
        }
        // 20, 5 and 48 signs are 19 lines, so that each one begins where it is
        s.lines("columnOf 0 0 -> 0\ncolumnOf 0 1 -> 403\ncolumnOf 0 4 -> 1900\ncolumnOf 0 22 -> 10402\ncolumnOf 0 23 -> 10901");
        // "Returns 100 times the column, and the line of the column, from 0, of its first line, together."
        // "Returns where an entry begins in the columns of an index, the lines for a heading or a parent left out."
        Script.run("Promise 37: the first line of the first column, and the last line of the greatest height", """
                text 0 -> 0
                text 1 1 1 1 1 1 1 1 1 1 -> 1
                columns 4 40 -> 12
                times 12 entry -1 1 1
                times 3 entry -1 1 1
                entry -1 0 1 -> 15
                # 13 times 3 lines behind one
                columnOf 0 15 -> 0
                columnOf 0 0 -> 1
                columnOf 0 12 -> 37
                columnOf 0 13 -> 100
                entry -1 0 1 -> 16
                # two lines, and 38 are left
                columnOf 0 11 -> 35
                columnOf 0 12 -> 100
                """);
    }
}
