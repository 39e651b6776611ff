/** The promises 18 to 20 and 37: pins, editions and columns. */
public final class EditionsTest {
    private EditionsTest() {
    }

    public static void main(String[] args) {
        pin();
        edition();
        joined();
        columns();
        lengths();
        headings();
        newColumns();
        longEntries();
        subEntries();
        columnThrows();
        Script.end();
    }

    private static void pin() {
        Script.run("18 pin", """
                pin 0 1 -> IAE
                pin 1 0 -> IAE
                pin 1000 1 -> IAE
                pin 1 1000 -> IAE
                pin -1 -1 -> IAE
                pin 2147483647 1 -> IAE
                pin 10 20 -> 1
                pin 10 21 -> IAE
                pin 11 20 -> IAE
                pin 9 30 -> IAE
                pin 30 19 -> IAE
                pin 11 21 -> 2
                pin 12 22 -> 3
                pin 13 30 -> 4
                pin 20 31 -> 5
                pin 998 998 -> 6
                pin 999 999 -> ISE
                # the one named first
                pin 998 999 -> IAE
                pin 999 998 -> IAE
                pin 1000 1000 -> IAE
                edition -> 0
                # there are none then: any page is above
                pin 1 1 -> 1
                pin 999 999 -> 2
                pin 1000 1000 -> IAE
                """);
    }

    private static void edition() {
        Script.run("19 edition", """
                text 0 -> 0
                times 3 entry -1 0 1
                edition -> ISE
                pin 10 100 -> 1
                edition -> ISE
                pin 20 107 -> 2
                pin 30 207 -> 3
                locate 0 9 0 -> true
                locate 0 10 0 -> true
                locate 0 11 1 -> true
                locate 0 13 0 -> true
                locate 0 19 2 -> true
                locate 1 20 0 -> true
                locate 1 21 0 -> true
                locate 1 29 0 -> true
                locate 1 30 0 -> true
                locate 1 31 0 -> true
                locate 1 999 1 -> true
                locate 1 1 1 -> true
                # 9, 31, 999 and 1
                edition -> 4
                # 7 for 10 pages, rounded down
                all locatorAt 0 -> 1100100 100100 102102 2106106
                # 100 for 10
                all locatorAt 1 -> 107107 117117 197197 207207
                edition -> ISE
                # a page more than one pin away
                pin 50 1 -> 1
                edition -> ISE
                pin 100 500 -> 2
                pin 107 507 -> 3
                edition -> 3
                all locatorAt 0 -> 1500500 500500 502502 2506506
                all locatorAt 1 -> 507507
                """);
    }

    private static void joined() {
        Script.run("19 locators that become the same", """
                text 0 -> 0
                entry -1 0 1 -> 0
                entry -1 0 1 -> 1
                times 1 entry -1 0 1
                # 10 of them
                locate 0 1 0 -> true
                locate 0 2 0 -> true
                locate 0 3 0 -> true
                locate 0 4 0 -> true
                locate 0 5 0 -> true
                locate 0 6 0 -> true
                locate 0 2 1 -> true
                locate 0 3 1 -> true
                locate 0 3 2 -> true
                locate 0 11 0 -> true
                locate 0 12 0 -> ISE
                locate 1 3 0 -> true
                pin 1 1 -> 1
                pin 11 3 -> 2
                # 0, 2, 4, 6, 8, 10 tenths behind 1, and 20 tenths
                edition -> 0
                all locatorAt 0 -> 1001001 1003 2001001
                # one more finds place then
                locate 0 12 0 -> true
                locate 0 1 0 -> false
                locate 0 2 0 -> false
                locate 0 3 0 -> false
                locate 0 2 1 -> true
                all locatorAt 0 -> 1001002 1003 12012 2001001
                all locatorAt 1 -> 1001
                # those that are lost, of all entries
                pin 2 2 -> 1
                pin 3 999 -> 2
                edition -> 5
                all locatorAt 0 -> 1002002 2002 999999
                all locatorAt 1 ->
                """);
    }

    private static void columns() {
        Script.run("20 columns", """
                columns 3 10 -> IAE
                columns 41 10 -> IAE
                columns 10 3 -> IAE
                columns 10 41 -> IAE
                columns -1 -1 -> IAE
                columns 2147483647 10 -> IAE
                columns 10 -2147483648 -> IAE
                columns 4 40 -> 12
                columns 40 4 -> 4
                columns 40 41 -> IAE
                columns 5 6 -> 40
                text 0 1 2 3 4 5 6 7 8 9 -> 0
                times 7 entry -1 0 1
                # two lines each, in six lines
                columnOf 0 0 -> 0
                columnOf 0 1 -> 2
                columnOf 0 2 -> 4
                columnOf 0 3 -> 100
                columnOf 0 6 -> 200
                # 3 and 6
                columns 4 6 -> 5
                columnOf 0 1 -> 3
                columnOf 0 2 -> 100
                # one and six
                columns 10 6 -> 4
                columnOf 0 5 -> 5
                columnOf 0 6 -> 100
                columns 9 7 -> 10
                columnOf 0 2 -> 4
                columnOf 0 3 -> 100
                """);
        Script.run("20 12 and 10 at first", """
                text 0 1 2 3 4 5 6 7 8 9 -> 0
                times 12 entry -1 0 1
                columnOf 0 9 -> 9
                columnOf 0 10 -> 100
                form 0 2 1 -> 0
                # turned, the first one goes last
                columnOf 0 9 -> 8
                locate 0 1 0 -> true
                columnOf 0 0 -> 101
                columnOf 0 1 -> 0
                form 0 0 0 -> 2
                columnOf 0 1 -> 2
                """);
    }

    private static void lengths() {
        Script.run("37 the length of an entry", """
                compose 40 0 24 -> 1
                columns 4 40 -> 12
                # 8 signs put together, 4 of them taken apart and put together again
                text 0 24 0 24 0 0 28 30 31 40 -> 0
                text 11 -> 1
                entry -1 0 1 -> 0
                entry -1 1 1 -> 1
                columnOf 0 0 -> 0
                columnOf 0 1 -> 2
                # turned
                form 0 2 6 -> 0
                columnOf 0 1 -> 3
                form 0 1 2 -> 2
                columnOf 0 1 -> 2
                form 0 2 6 -> 1
                # groups: 9 and 3 is 12, and 13 with another one of the same group
                locate 0 5 0 -> true
                columnOf 0 1 -> 3
                locate 0 6 0 -> true
                columnOf 0 1 -> 3
                locate 0 6 1 -> true
                # 15
                columnOf 0 1 -> 4
                locate 0 8 0 -> true
                # 18
                columnOf 0 1 -> 5
                locate 0 10 0 -> true
                # 21
                columnOf 0 1 -> 6
                # passim: 9, 3 and 3 again
                locate 0 12 0 -> true
                columnOf 0 1 -> 4
                # 20
                see 0 1 false -> true
                columnOf 0 1 -> 5
                # 23, 26
                see 0 1 true -> true
                columnOf 0 1 -> 6
                entry -1 1 2 -> 2
                see 0 2 true -> true
                columnOf 0 1 -> 7
                # the other one has 2 for its parent: 1 and 2, 1 and 2 and 3
                entry 1 1 1 -> 3
                entry 1 1 1 -> 4
                columnOf 0 4 -> 9
                locate 3 1 0 -> true
                columnOf 0 4 -> 10
                # composed later, two signs become one: 25
                compose 41 40 24 -> 2
                columnOf 0 1 -> 7
                """);
        exactLength("nothing else", 0, "", "");
        exactLength("turned", 1, "", "form 0 2 1");
        exactLength("a particle", 0, "", "form 0 1 1");
        exactLength("a group", 3, "", "locate 0 7 2");
        exactLength("two groups", 6, "", "locate 0 7 0\nlocate 0 9 0");
        exactLength("two pages of a group", 3, "", "locate 0 7 1\nlocate 0 8 1");
        exactLength("it sees one", 5, "", "see 0 1 false");
        exactLength("it sees one also", 3, "", "see 0 1 true");
        exactLength("it sees two also", 6, "entry -1 0 2", "see 0 1 true\nsee 0 2 true");
        exactLength("it is seen", 0, "", "see 1 0 false\nsee 1 0 true");
        Script.run("37 the length of a sub-entry", """
                text 0 1 -> 0
                text 0 1 2 -> 1
                text 11 -> 2
                columns 4 40 -> 12
                entry -1 2 1 -> 0
                entry 0 0 1 -> 1
                entry 0 2 1 -> 2
                # 4
                columnOf 0 1 -> 1
                columnOf 0 2 -> 2
                entry 0 1 1 -> 3
                # 5
                columnOf 0 3 -> 2
                columnOf 0 2 -> 4
                """);
        Script.run("37 lengths rounded up", """
                text 0 1 2 3 -> 0
                text 0 1 2 3 4 -> 1
                text 5 -> 2
                columns 4 40 -> 12
                entry -1 0 1 -> 0
                entry -1 1 1 -> 1
                entry -1 2 1 -> 2
                columnOf 0 1 -> 1
                columnOf 0 2 -> 3
                columns 5 40 -> 4
                columnOf 0 2 -> 2
                """);
    }

    /** Texts of 2 to 9 signs, and what makes the entry longer by some; as many lines as go into the length with 4. */
    private static void exactLength(String name, int more, String ahead, String lines) {
        for (int signs = 2; signs <= 9; signs++) {
            Script s = new Script("37 the length of an entry: " + name + ", " + signs + " signs");
            s.lines("columns 4 40\ndraft " + "1 ".repeat(signs) + "\ntext\ntext 11");
            s.lines("entry -1 0 1\nentry -1 1 1");
            s.lines(ahead);
            s.lines(lines);
            s.due((signs + more + 3) / 4, "columnOf", 0, 1);
        }
    }

    private static void headings() {
        Script.run("37 lines for headings", """
                text 30 -> 0
                text 0 -> 1
                text 1 -> 2
                text 7 -> 3
                text 2 -> 4
                entry -1 0 1 -> 0
                entry -1 1 1 -> 1
                entry -1 1 1 -> 2
                entry -1 2 1 -> 3
                entry -1 3 1 -> 4
                entry -1 4 1 -> 5
                columns 12 40 -> 12
                # none
                columnOf 0 0 -> 0
                columnOf 0 1 -> 1
                columnOf 0 5 -> 4
                columnOf 0 4 -> 5
                heading 0 true -> 1
                columnOf 0 0 -> 0
                columnOf 0 1 -> 2
                columnOf 0 2 -> 3
                columnOf 0 3 -> 4
                # the overflow is another one
                columnOf 0 5 -> 5
                columnOf 0 4 -> 7
                heading 1 true -> 2
                columnOf 0 3 -> 5
                columnOf 0 5 -> 6
                columnOf 0 4 -> 8
                # the first one of the index
                rule 0 4 : 28 / 0 -> 1
                columnOf 0 1 -> 1
                columnOf 0 2 -> 2
                # 30 stands beneath 0 then
                columnOf 0 0 -> 3
                columnOf 0 3 -> 5
                # sub-entries have none, and the one ahead is that without a parent
                entry 1 4 1 -> 6
                columnOf 0 6 -> 2
                columnOf 0 2 -> 3
                columnOf 0 0 -> 4
                """);
        Script.run("37 back beneath none", """
                text 3 -> 0
                text 7 -> 1
                text 24 -> 2
                rule 0 4 : 28 / 3 -> 1
                text 2 -> 3
                entry -1 0 1 -> 0
                entry -1 3 1 -> 1
                entry -1 2 1 -> 2
                heading 3 true -> 1
                # 24 has an empty row, and goes first; beneath none, and then 3
                columnOf 0 2 -> 0
                columnOf 0 0 -> 2
                columnOf 0 1 -> 3
                heading 2 true -> 2
                columnOf 0 1 -> 4
                heading 3 false -> 1
                columnOf 0 0 -> 1
                columnOf 0 1 -> 3
                """);
    }

    private static void newColumns() {
        Script.run("37 new columns", """
                text 0 -> 0
                text 0 1 2 3 4 5 6 7 8 -> 1
                text 1 -> 2
                columns 4 5 -> 12
                entry -1 0 1 -> 0
                entry -1 0 1 -> 1
                # three lines
                entry -1 1 1 -> 2
                columnOf 0 2 -> 2
                entry -1 2 1 -> 3
                # no line is left
                columnOf 0 3 -> 100
                entry -1 0 1 -> 4
                # fewer lines are left than it has
                columnOf 0 4 -> 2
                columnOf 0 2 -> 100
                columnOf 0 3 -> 103
                # with its heading 2 lines: 1 of them is left, so that both go on in a new column
                heading 1 true -> 1
                columnOf 0 3 -> 104
                entry -1 1 1 -> 5
                columnOf 0 2 -> 100
                columnOf 0 5 -> 200
                columnOf 0 3 -> 204
                heading 1 false -> 0
                columnOf 0 3 -> 203
                columns 4 7 -> 4
                columnOf 0 2 -> 3
                columnOf 0 5 -> 100
                columnOf 0 3 -> 103
                columns 5 7 -> 4
                # two lines each
                columnOf 0 5 -> 5
                columnOf 0 3 -> 100
                heading 1 true -> 1
                columnOf 0 3 -> 101
                columns 5 8 -> 5
                columnOf 0 5 -> 5
                # one line is left for a heading and an entry
                columnOf 0 3 -> 101
                columns 5 9 -> 5
                columnOf 0 3 -> 8
                """);
    }

    private static void longEntries() {
        Script.run("37 an entry with more lines than the height", """
                text 0 -> 0
                text 0 1 2 3 4 5 6 7 8 9 -> 1
                text 1 -> 2
                columns 4 4 -> 12
                entry -1 0 1 -> 0
                entry -1 1 1 -> 1
                entry -1 2 1 -> 2
                # 3, 4, 5, 6 lines
                columnOf 0 1 -> 1
                columnOf 0 2 -> 100
                locate 1 1 0 -> true
                columnOf 0 1 -> 100
                columnOf 0 2 -> 200
                locate 1 3 0 -> true
                columnOf 0 1 -> 100
                columnOf 0 2 -> 200
                # 5: it begins where it is, and goes on
                locate 1 5 1 -> true
                columnOf 0 1 -> 1
                columnOf 0 2 -> 102
                see 1 0 false -> true
                # 6
                columnOf 0 2 -> 103
                see 1 0 true -> true
                # 7: no line is left behind it
                columnOf 0 2 -> 200
                see 1 2 true -> true
                # 30 signs
                columnOf 0 2 -> 201
                # with a heading 1 more line
                heading 0 true -> 1
                columnOf 0 0 -> 1
                columnOf 0 1 -> 2
                columnOf 0 2 -> 202
                # all beneath 0, but for 2
                heading 1 true -> 2
                columnOf 0 2 -> 203
                columns 4 10 -> 4
                columnOf 0 1 -> 2
                columnOf 0 2 -> 101
                """);
        Script.run("37 one line left, for a heading", """
                text 0 -> 0
                text 0 0 0 0 0 0 0 0 0 0 -> 1
                text 1 1 1 1 1 1 1 1 1 1 -> 2
                text 2 -> 3
                columns 4 4 -> 12
                times 3 entry -1 0 1
                entry -1 2 1 -> 3
                entry -1 3 1 -> 4
                locate 3 1 0 -> true
                locate 3 5 1 -> true
                locate 3 5 0 -> true
                # 5 lines
                columnOf 0 3 -> 3
                columnOf 0 4 -> 200
                heading 1 true -> 1
                # 6 lines, more than the height: but just one line is left
                columnOf 0 3 -> 101
                columnOf 0 4 -> 202
                # two lines are left
                form 2 0 0 -> 0
                columns 4 5 -> 4
                columnOf 0 3 -> 4
                columnOf 0 4 -> 104
                columns 4 6 -> 4
                # with its heading it has no more lines than the height
                columnOf 0 3 -> 101
                columnOf 0 4 -> 200
                """);
    }

    private static void subEntries() {
        Script.run("37 a sub-entry at the beginning of a column", """
                text 0 -> 0
                text 0 1 -> 1
                text 1 -> 2
                columns 4 4 -> 12
                entry -1 0 1 -> 0
                entry 0 1 1 -> 1
                entry 0 1 1 -> 2
                entry 0 1 1 -> 3
                entry 0 1 1 -> 4
                entry -1 2 1 -> 5
                columnOf 0 1 -> 1
                columnOf 0 3 -> 3
                # the parent is told again
                columnOf 0 4 -> 101
                columnOf 0 5 -> 102
                entry 0 1 1 -> 6
                entry 0 1 1 -> 7
                columnOf 0 7 -> 103
                columnOf 0 5 -> 200
                entry 0 1 1 -> 8
                columnOf 0 8 -> 201
                columnOf 0 5 -> 202
                """);
        Script.run("37 a sub-entry, with 1 more", """
                text 0 -> 0
                text 0 1 2 3 4 5 6 7 -> 1
                text 1 -> 2
                columns 4 4 -> 12
                entry -1 0 1 -> 0
                entry 0 2 1 -> 1
                # 3 lines, of 3 that are left; then of 2
                entry 0 1 1 -> 2
                columnOf 0 2 -> 1
                columnOf 0 1 -> 101
                form 2 1 4 -> 0
                columnOf 0 1 -> 1
                columnOf 0 2 -> 101
                entry -1 2 1 -> 3
                columnOf 0 3 -> 200
                # 4 lines: with the parent's line it has more than the height, and begins where it is
                locate 2 3 0 -> true
                columnOf 0 2 -> 2
                columnOf 0 3 -> 102
                locate 2 5 0 -> true
                columnOf 0 2 -> 2
                columnOf 0 3 -> 102
                """);
    }

    private static void columnThrows() {
        Script.run("37 what is thrown", """
                columnOf 0 0 -> IOOBE
                text 0 -> 0
                entry -1 0 2 -> 0
                entry 0 0 1 -> 1
                columnOf 1 0 -> 0
                columnOf 1 1 -> 1
                columnOf 0 0 -> IOOBE
                columnOf 0 1 -> IOOBE
                columnOf 2 0 -> IOOBE
                columnOf 3 0 -> IOOBE
                columnOf -1 0 -> IOOBE
                columnOf 1 2 -> IOOBE
                columnOf 1 -1 -> IOOBE
                columnOf 1 2147483647 -> IOOBE
                columnOf -2147483648 0 -> IOOBE
                """);
    }
}
