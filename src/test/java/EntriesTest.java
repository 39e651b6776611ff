/** The promises 10 to 14 and 30 to 36: headings, entries, locators and references, and the three indexes. */
public final class EntriesTest {
    private EntriesTest() {
    }

    public static void main(String[] args) {
        heading();
        entry();
        entryThrows();
        form();
        formThrows();
        locate();
        see();
        entryAt();
        beneath();
        beneathTailored();
        locatorGroups();
        passim();
        leads();
        dead();
        moved();
        Script.end();
    }

    private static void heading() {
        Script.run("10 heading", """
                heading 0 true -> 1
                heading 0 true -> 1
                heading 11 true -> 2
                heading 5 false -> 2
                heading 0 false -> 1
                heading 0 false -> 1
                heading 12 true -> IOOBE
                heading -1 true -> IOOBE
                heading 12 false -> IOOBE
                heading 2147483647 true -> IOOBE
                heading -2147483648 false -> IOOBE
                heading 0 true -> 2
                """);
        Script s = new Script("10 every letter");
        for (int letter = 0; letter < 12; letter++) {
            s.due(letter + 1, "heading", letter, true);
        }
        for (int letter = 0; letter < 12; letter++) {
            s.due(11 - letter, "heading", letter, false);
        }
    }

    private static void entry() {
        Script.run("11 and 30: entries", """
                text 0 -> 0
                text 1 -> 1
                entries -> 0
                entry -1 0 1 -> 0
                entry -1 1 6 -> 1
                entries -> 2
                # sub-entries have the indexes of their parents
                entry 1 0 1 -> 2
                entry 0 1 7 -> 3
                entry -1 1 5 -> 4
                entries -> 5
                all entryAt 0 -> 0 3 4
                all entryAt 1 -> 1 2
                all entryAt 2 -> 1 2 4
                entry 4 1 2 -> 5
                all entryAt 1 -> 1 2
                all entryAt 2 -> 1 2 4 5
                entry -1 0 2 -> 6
                all entryAt 1 -> 6 1 2
                """);
    }

    private static void entryThrows() {
        Script.run("11 what is thrown", """
                entry -1 0 1 -> IOOBE
                text 0 -> 0
                entry 0 0 1 -> IOOBE
                entry -1 0 0 -> IAE
                entry -1 0 8 -> IAE
                entry -1 0 -1 -> IAE
                entry -1 0 2147483647 -> IAE
                entry -1 1 1 -> IOOBE
                entry -1 -1 1 -> IOOBE
                entries -> 0
                entry -1 0 7 -> 0
                entry 0 0 0 -> IAE
                entry 0 0 8 -> IAE
                entry 0 0 1 -> 1
                entry 1 0 1 -> ISE
                entry -2 0 1 -> IOOBE
                entry 2 0 1 -> IOOBE
                # the one named first
                entry 2 0 0 -> IOOBE
                entry 1 1 0 -> IOOBE
                entry 1 0 0 -> IAE
                entry 1 0 8 -> IAE
                entries -> 2
                times 21 entry -1 0 1
                entry 0 0 7 -> 23
                entry -1 0 1 -> ISE
                entry 0 0 1 -> ISE
                entry 1 0 1 -> ISE
                entry -1 0 0 -> IAE
                entry -1 1 0 -> IOOBE
                entry 24 0 0 -> IOOBE
                entries -> 24
                entryAt 0 23 -> 22
                entryAt 0 24 -> IOOBE
                entryAt 0 2 -> 23
                """);
    }

    private static void form() {
        Script.run("12 form", """
                text 0 1 -> 0
                text 1 -> 1
                text 1 0 -> 2
                text 1 29 0 -> 3
                entry -1 0 1 -> 0
                entry -1 1 1 -> 1
                entry -1 2 1 -> 2
                entry -1 3 1 -> 3
                all entryAt 0 -> 0 1 3 2
                # with a particle it is the same as 1, and ahead by its number
                form 0 1 1 -> 0
                all entryAt 0 -> 0 1 3 2
                # turned it is 1 28 0
                form 0 2 1 -> 1
                all entryAt 0 -> 1 0 3 2
                form 2 1 1 -> 0
                # 2 is 0 now
                all entryAt 0 -> 2 1 0 3
                form 2 2 1 -> 1
                # 2 is 0 28 1
                form 3 1 2 -> 0
                all entryAt 0 -> 3 2 1 0
                form 0 0 0 -> 2
                form 0 0 0 -> 0
                all entryAt 0 -> 3 2 0 1
                # turned at 2: 0 28 1 29, behind 0 28 1
                form 3 2 2 -> 1
                all entryAt 0 -> 2 3 0 1
                form 3 2 1 -> 2
                # 29 0 28 1
                all entryAt 0 -> 3 2 0 1
                """);
        Script.run("12 behind the blank come the first signs", """
                text 1 2 0 -> 0
                text 2 0 0 -> 1
                text 1 1 0 -> 2
                text 0 -> 3
                entry -1 0 1 -> 0
                entry -1 1 1 -> 1
                entry -1 2 1 -> 2
                entry -1 3 1 -> 3
                form 0 2 2 -> 0
                form 1 2 2 -> 0
                form 2 2 2 -> 0
                # 0; 0 28 1 1; 0 28 1 2; 0 28 2 0
                all entryAt 0 -> 3 2 0 1
                form 1 2 1 -> 2
                # 0 0 28 2
                all entryAt 0 -> 3 2 0 1
                form 2 2 1 -> 2
                # 1 0 28 1
                all entryAt 0 -> 3 0 1 2
                """);
        Script.run("12 the last sign of the longest form", """
                compose 40 0 24 -> 1
                compose 41 40 25 -> 2
                compose 42 40 26 -> 3
                text 42 41 41 41 41 41 41 41 41 41 -> 0
                text 41 41 41 41 41 41 41 41 41 41 -> 1
                entry -1 0 1 -> 0
                entry -1 1 1 -> 1
                form 0 2 3 -> 0
                form 1 2 3 -> 0
                # 26 and 25 are the 31st ones
                all entryAt 0 -> 1 0
                """);
        Script.run("12 a form is taken apart, and its marks may be torn off", """
                compose 40 0 24 -> 1
                text 40 1 -> 0
                text 28 0 -> 1
                entry -1 0 2 -> 0
                entry -1 1 2 -> 1
                all entryAt 1 -> 1 0
                form 0 1 1 -> 0
                # 24 and 1: only 1 on the first level
                all entryAt 1 -> 1 0
                option 1 0 true -> false
                all entryAt 1 -> 1 0
                form 1 2 1 -> 0
                # 0 28 28 and 24 1; then 1 28 0 24
                all entryAt 1 -> 1 0
                form 0 2 2 -> 1
                form 1 1 1 -> 2
                all entryAt 1 -> 1 0
                """);
    }

    private static void formThrows() {
        Script.run("12 what is thrown", """
                compose 40 0 24 -> 1
                text 40 -> 0
                text 1 2 3 -> 1
                text 5 -> 2
                form 0 0 0 -> IOOBE
                entry -1 0 1 -> 0
                entry -1 1 1 -> 1
                entry -1 2 1 -> 2
                form 3 0 0 -> IOOBE
                form -1 0 0 -> IOOBE
                form 0 3 1 -> IAE
                form 0 -1 0 -> IAE
                form 0 0 1 -> IAE
                form 0 0 -1 -> IAE
                form 0 1 0 -> IAE
                form 0 2 0 -> IAE
                form 1 1 3 -> IAE
                form 1 2 3 -> IAE
                form 1 2 -1 -> IAE
                form 1 1 2147483647 -> IAE
                form 1 2147483647 1 -> IAE
                # a text of one sign
                form 2 1 1 -> IAE
                form 2 2 1 -> IAE
                # taken apart there are two
                form 0 1 2 -> IAE
                form 0 1 1 -> 0
                form 1 2 2 -> 0
                # the one named first
                form 3 3 0 -> IOOBE
                form -1 1 0 -> IOOBE
                # what threw changed nothing
                form 1 1 3 -> IAE
                form 1 1 1 -> 2
                form 0 0 0 -> 1
                """);
    }

    private static void locate() {
        Script.run("13 locate", """
                text 0 -> 0
                entry -1 0 1 -> 0
                entry -1 0 1 -> 1
                locate 0 5 0 -> true
                locate 0 5 0 -> false
                locate 0 5 1 -> true
                locate 0 5 2 -> true
                locate 0 5 1 -> false
                locate 1 5 0 -> true
                all locatorAt 0 -> 1005005 5005 2005005
                all locatorAt 1 -> 5005
                locate 2 5 0 -> IOOBE
                locate -1 5 0 -> IOOBE
                locate 0 0 0 -> IAE
                locate 0 1000 0 -> IAE
                locate 0 -1 0 -> IAE
                locate 0 1 3 -> IAE
                locate 0 1 -1 -> IAE
                locate 2 0 0 -> IOOBE
                locate 2 1 3 -> IOOBE
                locate 0 1 0 -> true
                locate 0 999 2 -> true
                locate 0 100 0 -> true
                locate 0 200 0 -> true
                locate 0 300 0 -> true
                locate 0 400 0 -> true
                locate 0 500 0 -> true
                # 10
                locate 0 600 0 -> ISE
                locate 0 500 1 -> ISE
                locate 0 500 0 -> false
                locate 0 1000 0 -> IAE
                locate 0 600 3 -> IAE
                locate 2 600 0 -> IOOBE
                all locatorAt 0 -> 1005005 1001 5005 100100 200200 300300 400400 500500 2005005 2999999
                locate 1 600 0 -> true
                """);
    }

    private static void see() {
        Script.run("14 see", """
                text 0 -> 0
                entry -1 0 1 -> 0
                entry -1 0 1 -> 1
                entry -1 0 1 -> 2
                entry 0 0 1 -> 3
                see 0 1 false -> true
                see 0 1 false -> false
                # both sorts are for themselves
                see 0 1 true -> true
                see 0 1 true -> false
                see 0 2 true -> true
                see 0 3 true -> true
                dead -> 4
                see 0 2 false -> ISE
                see 0 3 false -> ISE
                see 0 0 false -> IAE
                see 0 0 true -> IAE
                see 0 4 true -> IOOBE
                see 0 -1 true -> IOOBE
                see 4 0 false -> IOOBE
                see -1 0 false -> IOOBE
                # the one named first
                see 4 4 false -> IOOBE
                see -1 -1 true -> IOOBE
                see 0 4 false -> IOOBE
                dead -> 4
                # it still sees what it saw
                locate 1 9 0 -> true
                leads 0 -> 1
                dead -> 2
                see 3 0 false -> true
                see 1 0 false -> true
                leads 3 -> 1
                """);
        Script s = new Script("14 see all others also");
        s.lines("text 0 -> 0\ntimes 24 entry -1 0 1");
        for (int target = 0; target < 23; target++) {
            s.due(true, "see", 23, target, true);
            s.due(target + 1, "dead");
        }
        for (int target = 0; target < 23; target++) {
            s.due(false, "see", 23, target, true);
        }
        s.due(false, "see", 23, 0, true);
        s.due(true, "see", 23, 22, false);
        s.due("ISE", "see", 23, 0, false);
    }

    private static void entryAt() {
        Script.run("31 the order of an index", """
                text 0 -> 0
                text 12 -> 1
                text 0 24 -> 2
                text 28 0 -> 3
                text 1 -> 4
                entry -1 4 7 -> 0
                entry -1 2 7 -> 1
                entry -1 1 7 -> 2
                entry -1 0 7 -> 3
                entry -1 0 7 -> 4
                entry 3 4 1 -> 5
                entry 3 0 1 -> 6
                entry 3 0 1 -> 7
                entry 0 3 1 -> 8
                entry 3 3 1 -> 9
                all entryAt 0 -> 3 9 6 7 5 4 2 1 0 8
                # each one by its own tailoring
                rule 1 4 : 0 / 1 -> 1
                all entryAt 1 -> 0 8 3 9 5 6 7 4 2 1
                all entryAt 0 -> 3 9 6 7 5 4 2 1 0 8
                option 2 0 true -> false
                # the fourth level: 28 0 is behind nothing else, but ahead of 0 24 and 12
                entry -1 3 4 -> 10
                all entryAt 2 -> 10 3 9 6 7 5 4 2 1 0 8
                option 2 0 false -> true
                all entryAt 2 -> 10 3 9 6 7 5 4 2 1 0 8
                entryAt 0 10 -> IOOBE
                entryAt 0 -1 -> IOOBE
                entryAt 3 0 -> IOOBE
                entryAt -1 0 -> IOOBE
                entryAt 0 2147483647 -> IOOBE
                entryAt 0 -2147483648 -> IOOBE
                """);
        Script.run("31 on the strength 4", """
                text 28 0 -> 0
                text 0 -> 1
                text 0 28 -> 2
                text 29 0 -> 3
                entry -1 1 1 -> 0
                entry -1 2 1 -> 1
                entry -1 3 1 -> 2
                entry -1 0 1 -> 3
                option 0 0 true -> false
                # 100; 100 1; 2 100; 1 100
                all entryAt 0 -> 3 2 0 1
                option 0 0 false -> true
                all entryAt 0 -> 3 2 0 1
                """);
        Script.run("31 sub-entries told ahead of other ones", """
                text 0 -> 0
                text 1 -> 1
                text 2 -> 2
                entry -1 2 3 -> 0
                entry 0 1 1 -> 1
                entry 0 0 1 -> 2
                entry -1 1 2 -> 3
                entry 3 2 7 -> 4
                entry 3 1 7 -> 5
                all entryAt 0 -> 0 2 1
                all entryAt 1 -> 3 5 4 0 2 1
                all entryAt 2 ->
                form 1 0 0 -> 0
                all entryAt 1 -> 3 5 4 0 2 1
                """);
    }

    private static void beneath() {
        Script.run("32 beneath", """
                text 1 -> 0
                text 14 -> 1
                text 0 1 -> 2
                text 28 2 -> 3
                text 7 -> 4
                text 31 -> 5
                text 24 -> 6
                text 30 7 0 -> 7
                entry -1 0 1 -> 0
                entry -1 1 1 -> 1
                entry -1 2 1 -> 2
                entry -1 3 1 -> 3
                entry -1 4 1 -> 4
                entry -1 5 1 -> 5
                entry -1 6 1 -> 6
                entry -1 7 1 -> 7
                entry 4 0 1 -> 8
                entry 0 4 1 -> 9
                # no headings
                beneath 0 0 -> -1
                heading 0 true -> 1
                heading 2 true -> 2
                beneath 0 0 -> 0
                beneath 0 1 -> 2
                beneath 0 2 -> 0
                # of the row on the first level: 28 begins it
                beneath 0 3 -> -1
                # another script
                beneath 0 4 -> 102
                beneath 0 5 -> -1
                # an empty row
                beneath 0 6 -> -1
                beneath 0 7 -> -1
                # that of the parent
                beneath 0 8 -> 102
                beneath 0 9 -> 0
                option 0 0 true -> false
                beneath 0 3 -> 2
                heading 7 true -> 3
                beneath 0 4 -> 7
                beneath 0 8 -> 7
                heading 8 true -> 4
                beneath 0 4 -> 7
                heading 7 false -> 3
                heading 6 true -> 4
                beneath 0 4 -> 6
                heading 0 false -> 3
                beneath 0 0 -> -1
                beneath 0 3 -> 2
                # the sort form
                form 2 1 1 -> 0
                beneath 0 2 -> -1
                heading 1 true -> 4
                beneath 0 2 -> 1
                beneath 0 0 -> 1
                beneath 0 10 -> IOOBE
                beneath 0 -1 -> IOOBE
                beneath 3 0 -> IOOBE
                beneath -1 0 -> IOOBE
                beneath 1 0 -> IOOBE
                beneath 1 8 -> IOOBE
                """);
        Script.run("32 a capital, a number, a turned one, and those of an index only", """
                text 19 -> 0
                text 8 0 -> 1
                text 23 -> 2
                entry -1 0 4 -> 0
                entry -1 1 6 -> 1
                entry -1 2 2 -> 2
                heading 1 true -> 1
                beneath 2 0 -> 101
                beneath 2 1 -> 101
                form 1 2 1 -> 0
                # 0 28 8
                beneath 2 1 -> -1
                heading 0 true -> 2
                beneath 2 1 -> 0
                heading 11 true -> 3
                beneath 1 2 -> 11
                beneath 1 1 -> 0
                beneath 1 0 -> IOOBE
                beneath 2 2 -> IOOBE
                beneath 0 0 -> IOOBE
                """);
    }

    private static void beneathTailored() {
        Script.run("32 headings in a tailoring", """
                text 31 -> 0
                text 2 -> 1
                text 5 -> 2
                text 30 8 -> 3
                text 3 -> 4
                entry -1 0 3 -> 0
                entry -1 1 3 -> 1
                entry -1 2 3 -> 2
                entry -1 3 3 -> 3
                entry -1 4 3 -> 4
                heading 3 true -> 1
                beneath 0 0 -> -1
                rule 0 4 : 28 / 3 -> 1
                # 3 is ahead of the digits; without a letter nothing overflows
                beneath 0 0 -> 3
                beneath 1 0 -> -1
                # the first letter is behind a digit
                beneath 0 3 -> 103
                beneath 0 4 -> 3
                beneath 0 1 -> 3
                # of the same first weight the greatest letter
                heading 2 true -> 2
                rule 1 3 : 2 / 4 -> 1
                heading 4 true -> 3
                beneath 1 1 -> 4
                beneath 0 1 -> 2
                # that sorts as several: no item, so no heading
                heading 5 true -> 4
                beneath 0 2 -> 5
                beneath 1 2 -> 5
                rule 0 7 : 2 4 / 5 -> 2
                beneath 0 2 -> 2
                beneath 1 2 -> 5
                # of that as which it sorts; its own first letter tells the script
                rule 1 7 : 8 9 / 5 -> 2
                beneath 1 2 -> 3
                heading 8 true -> 5
                beneath 1 2 -> 108
                # a number by value begins with the weight of 30
                option 1 2 true -> false
                beneath 1 0 -> -1
                rule 1 4 : 30 / 3 -> 3
                beneath 1 0 -> 3
                """);
    }

    private static void locatorGroups() {
        Script.run("33 groups of locators", """
                text 0 -> 0
                entry -1 0 1 -> 0
                entry -1 0 1 -> 1
                all locatorAt 0 ->
                locate 0 9 2 -> true
                locate 0 4 0 -> true
                locate 0 2 0 -> true
                locate 0 3 0 -> true
                locate 0 3 1 -> true
                locate 0 8 2 -> true
                locate 0 999 1 -> true
                locate 0 4 1 -> true
                locate 0 6 0 -> true
                locate 0 1 2 -> true
                all locatorAt 0 -> 1003004 1999999 2004 6006 2001001 2008009
                locatorAt 0 6 -> -1
                locatorAt 0 2147483647 -> -1
                locatorAt 0 -1 -> IOOBE
                locatorAt 0 -2147483648 -> IOOBE
                locatorAt 2 0 -> IOOBE
                locatorAt -1 0 -> IOOBE
                all locatorAt 1 ->
                locate 1 998 0 -> true
                locate 1 999 0 -> true
                all locatorAt 1 -> 998999
                """);
    }

    private static void passim() {
        Script.run("33 passim", """
                text 0 -> 0
                times 9 entry -1 0 1
                # 9 pages behind
                locate 0 1 0 -> true
                locate 0 3 0 -> true
                locate 0 5 0 -> true
                locate 0 10 0 -> true
                all locatorAt 0 -> 3001010
                # up to the last page of the last one, however far
                locate 0 11 0 -> true
                locate 0 12 0 -> true
                all locatorAt 0 -> 3001012
                locate 0 14 0 -> true
                all locatorAt 0 -> 3001012 14014
                # 10 pages behind
                locate 1 1 0 -> true
                locate 1 3 0 -> true
                locate 1 5 0 -> true
                locate 1 11 0 -> true
                all locatorAt 1 -> 1001 3003 5005 11011
                # from the second one on
                locate 1 8 0 -> true
                all locatorAt 1 -> 3001008 11011
                locate 2 1 0 -> true
                locate 2 8 0 -> true
                locate 2 10 0 -> true
                locate 2 12 0 -> true
                locate 2 14 0 -> true
                all locatorAt 2 -> 1001 3008014
                # twice
                locate 3 1 0 -> true
                locate 3 3 0 -> true
                locate 3 5 0 -> true
                locate 3 7 0 -> true
                locate 3 9 0 -> true
                locate 3 12 0 -> true
                locate 3 14 0 -> true
                locate 3 16 0 -> true
                locate 3 18 0 -> true
                all locatorAt 3 -> 3001009 3012018
                # plain ones only
                locate 4 1 1 -> true
                locate 4 3 1 -> true
                locate 4 5 1 -> true
                locate 4 7 1 -> true
                locate 4 9 0 -> true
                all locatorAt 4 -> 1001001 1003003 1005005 1007007 9009
                locate 4 1 2 -> true
                locate 4 3 2 -> true
                locate 4 5 2 -> true
                locate 4 7 2 -> true
                all locatorAt 4 -> 1001001 1003003 1005005 1007007 9009 2001001 2003003 2005005 2007007
                # groups of several pages count as one
                locate 5 1 0 -> true
                locate 5 2 0 -> true
                locate 5 4 0 -> true
                locate 5 5 0 -> true
                locate 5 7 0 -> true
                all locatorAt 5 -> 1002 4005 7007
                locate 5 7 1 -> true
                locate 5 9 2 -> true
                all locatorAt 5 -> 1007007 1002 4005 7007 2009009
                locate 5 10 0 -> true
                all locatorAt 5 -> 1007007 3001010 2009009
                """);
    }

    private static void leads() {
        Script.run("34 leads", """
                text 0 -> 0
                times 6 entry -1 0 1
                entry 4 0 1 -> 6
                leads 0 -> -1
                see 0 1 false -> true
                see 1 2 false -> true
                see 2 3 false -> true
                leads 0 -> -1
                locate 3 1 2 -> true
                leads 0 -> 3
                leads 2 -> 3
                leads 3 -> 3
                # the nearest one that has locators
                locate 1 1 0 -> true
                leads 0 -> 1
                leads 2 -> 3
                # what it sees also leads nowhere
                see 5 3 true -> true
                leads 5 -> -1
                # it comes round
                see 4 5 false -> true
                see 5 4 false -> true
                leads 4 -> -1
                leads 5 -> -1
                # a sub-entry's own locator is its parent's, too, and not the other way round
                see 6 5 false -> true
                leads 6 -> -1
                locate 6 3 1 -> true
                leads 4 -> 4
                leads 5 -> 4
                leads 6 -> 6
                leads 7 -> IOOBE
                leads -1 -> IOOBE
                leads 2147483647 -> IOOBE
                """);
        Script.run("34 a sub-entry does not have the locators of its parent", """
                text 0 -> 0
                entry -1 0 1 -> 0
                entry 0 0 1 -> 1
                entry 0 0 1 -> 2
                locate 0 1 0 -> true
                leads 1 -> -1
                leads 0 -> 0
                see 1 0 false -> true
                leads 1 -> 0
                # a locator that has gone
                pin 5 5 -> 1
                pin 6 6 -> 2
                edition -> 1
                leads 1 -> -1
                leads 0 -> -1
                """);
        Script s = new Script("34 the longest way");
        s.lines("text 0 -> 0\ntimes 24 entry -1 0 1");
        for (int e = 0; e < 23; e++) {
            s.due(true, "see", e, e + 1, false);
        }
        s.lines("""
                leads 0 -> -1
                see 23 1 false -> true
                leads 0 -> -1
                leads 12 -> -1
                dead -> 24
                locate 23 7 0 -> true
                leads 0 -> 23
                dead -> 0
                """);
    }

    private static void dead() {
        Script.run("35 dead", """
                dead -> 0
                text 0 -> 0
                times 4 entry -1 0 1
                dead -> 0
                see 0 1 false -> true
                dead -> 1
                see 0 1 true -> true
                dead -> 2
                see 2 0 true -> true
                # 0 leads to 1, which leads nowhere
                dead -> 3
                locate 1 4 0 -> true
                dead -> 0
                see 0 3 true -> true
                see 1 3 true -> true
                see 2 3 false -> true
                dead -> 3
                # 3 sees 2, which sees 3
                see 3 2 false -> true
                dead -> 4
                locate 2 4 0 -> true
                dead -> 0
                """);
    }

    private static void moved() {
        Script.run("36 moved", """
                moved 0 -> 0
                moved 3 -> IOOBE
                moved -1 -> IOOBE
                text 0 -> 0
                text 1 -> 1
                text 2 -> 2
                entry -1 0 3 -> 0
                entry -1 1 3 -> 1
                entry -1 2 3 -> 2
                # there was no such call
                entry -1 0 1 -> 3
                moved 0 -> 0
                rule 0 4 : 0 / 1 -> 1
                # 0 3 1 2, then 1 0 3 2
                moved 0 -> 3
                moved 1 -> 0
                moved 2 -> 0
                # of the places that there were then
                entry -1 2 1 -> 4
                moved 0 -> 3
                entry 1 0 1 -> 5
                # 1 5 0 3 2 4
                moved 0 -> 4
                # ahead of the last call
                option 0 1 true -> false
                moved 0 -> 0
                option 0 1 true -> true
                moved 0 -> 0
                adopt 1 0 -> 1
                moved 1 -> 3
                # 0 1 2 until then, now 1 5 0 2
                moved 0 -> 0
                # what throws is no such call
                rule 1 1 -> ISE
                adopt 1 1 -> IAE
                option 1 3 true -> IOOBE
                rule 1 9 -> IAE
                moved 1 -> 3
                adopt 1 2 -> 1
                moved 1 -> 0
                # another entry through a form, or a new entry
                text 3 0 -> 3
                entry -1 3 2 -> 6
                moved 1 -> 0
                form 6 1 1 -> 0
                # 1 5 0 2 then, 1 5 0 6 2 now
                moved 1 -> 1
                """);
        Script.run("36 an index that was empty", """
                text 1 -> 0
                option 2 2 false -> false
                entry -1 0 4 -> 0
                moved 2 -> 0
                option 2 2 false -> false
                text 0 -> 1
                entry -1 1 4 -> 1
                moved 2 -> 1
                entry -1 1 4 -> 2
                moved 2 -> 1
                """);
    }
}
