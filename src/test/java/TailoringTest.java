/** The promises 7 to 9, 23 and 24: rules, adopting, options and the order list. */
public final class TailoringTest {
    private TailoringTest() {
    }

    public static void main(String[] args) {
        behind();
        ahead();
        asSeveral();
        notPossible();
        ruleThrows();
        adopt();
        adoptThrows();
        option();
        rulesAndItems();
        Script.end();
    }

    private static void behind() {
        Script.run("7 behind on a level, and the same", """
                # behind the capital, which has the level 3
                rule 0 1 : 0 / 0 24 -> 1
                items 0 12 -> 1000001 3000013 1000125 1000002
                # up to the first one with this level or a lesser one
                rule 0 2 : 0 / 0 25 -> 2
                items 0 12 -> 1000001 3000013 2000126 1000125 1000002
                rule 0 2 : 0 / 0 1 2 -> 3
                items 0 12 -> 1000001 3000013 2010203 2000126 1000125
                # the capital has this very level
                rule 0 3 : 0 / 0 26 -> 4
                items 0 12 -> 1000001 3000127 3000013 2010203
                rule 0 0 : 0 / 0 27 -> 5
                items 0 12 -> 1000001 4000128 3000127 3000013
                rule 0 0 : 0 / 12 1 -> 6
                items 0 12 -> 1000001 4001302 4000128 3000127
                # an item of the list leaves its place: its capital has the level 1 then
                rule 0 3 : 0 / 1 -> 7
                items 0 12 -> 1000001 4001302 4000128 3000002 3000127 3000013 2010203 2000126 1000125 1000014 1000003 3000015
                # one that leaves with the greater level leaves the lesser one as it is
                rule 0 1 : 39 / 12 -> 8
                items 0 11 -> 1000040 1000013 1000001 4001302
                items 0 17 -> 3000127 2010203 2000126
                # behind an anchor of several signs, and at the end of the list
                rule 0 1 : 23 / 0 1 2 -> 9
                items 0 40 -> 3000024 1010203
                itemAt 0 42 -> IOOBE
                rule 0 1 : 0 1 2 / 5 -> 10
                items 0 39 -> 3000024 1010203 1000006
                itemAt 0 42 -> IOOBE
                # a digit and a blank can be anchors
                rule 0 2 : 28 / 17 -> 11
                items 0 0 -> 1000029 2000018 1000030
                rule 0 1 : 31 / 0 24 -> 12
                items 0 4 -> 1000032 1000125 1000033
                """);
        Script.run("7 the other tailorings stay as they were, and what is composed is taken apart", """
                compose 40 0 27 -> 1
                compose 41 40 24 -> 2
                rule 1 1 : 0 / 41 -> 1
                rules 0 -> 0
                rules 1 -> 1
                rules 2 -> 0
                items 1 14 -> 1012528 1000002
                items 0 14 -> 1000002
                items 2 14 -> 1000002
                itemAt 1 36 -> 3000024
                itemAt 1 37 -> IOOBE
                itemAt 0 36 -> IOOBE
                # marks by their classes, in the anchor too
                anchor 0 27 24 -> 3
                draft 3
                rule 1 0 -> 2
                items 1 14 -> 1012528 4000004 1000002
                """);
    }

    private static void ahead() {
        Script.run("7 ahead on a level", """
                rule 0 4 : 1 / 0 1 -> 1
                items 0 13 -> 3000013 1000102 1000002 3000014
                # the capital has a greater level: the nearest one ahead whose level is at most that
                rule 0 4 : 13 / 1 24 -> 2
                items 0 13 -> 3000013 1000102 1000225 1000002 3000014
                rule 0 5 : 13 / 1 25 -> 3
                items 0 15 -> 1000225 1000226 2000002 3000014
                rule 0 6 : 13 / 1 26 -> 4
                items 0 16 -> 1000226 2000002 3000227 3000014 1000003
                rule 0 6 : 1 / 1 27 -> 5
                items 0 16 -> 1000226 2000228 3000002 3000227 3000014
                # a greater one is gone over, one with just this level is not
                rule 0 5 : 13 / 2 -> 6
                items 0 16 -> 1000226 2000003 2000228 3000002 3000227 3000014 1000015
                rule 0 4 : 13 / 2 24 -> 7
                items 0 16 -> 1000325 1000226 2000003
                # ahead of the first item, whose level is 1
                rule 0 4 : 28 / 5 -> 8
                items 0 0 -> 1000006 1000029 1000030
                rule 0 5 : 5 / 5 24 -> 9
                items 0 0 -> 1000625 2000006 1000029
                # and the first item leaves
                rule 0 1 : 28 / 5 24 -> 10
                items 0 0 -> 1000006 1000029 1000625 1000030
                rule 0 6 : 5 / 4 -> 11
                items 0 0 -> 1000005 3000006 1000029
                """);
        Script.run("7 the anchor is looked for when the item has left", """
                rule 0 0 : 0 / 1 -> 1
                items 0 12 -> 1000001 4000002 3000013 1000014
                # the capital behind has the level 3, the lesser one of both
                rule 0 4 : 12 / 1 -> 2
                items 0 11 -> 1000040 1000002 1000001 3000013 1000014
                # 0 has the level 3 then, and 12 behind it, as they were
                rule 0 6 : 0 / 1 -> 3
                items 0 12 -> 1000002 3000001 3000013
                # 1 is the nearest one ahead; as it leaves first, 0 is
                rule 0 4 : 12 / 1 -> 4
                items 0 12 -> 1000002 1000001 3000013
                """);
    }

    private static void asSeveral() {
        Script.run("7 as several", """
                rule 0 7 : 0 1 / 2 -> 1
                # it is in the list no more
                items 0 14 -> 1000002 3000014 1000015 1000004
                itemAt 0 34 -> 3000024
                itemAt 0 35 -> IOOBE
                text 2 -> 0
                all element 0 0 -> 130101 140101
                # with three signs, with capitals, the same one twice
                rule 0 7 : 12 0 12 / 5 24 -> 2
                itemAt 0 35 -> IOOBE
                text 5 24 -> 1
                all element 0 1 -> 130102 130101 130102
                # told anew: what it sorted as until then counts no more
                rule 0 7 : 3 4 / 2 -> 3
                all element 0 0 -> 160101 170101
                rule 0 7 : 3 4 / 1 -> 4
                rule 0 1 : 0 / 3 -> 5
                # a rule of another sort puts it into the list
                rule 0 0 : 0 / 2 -> 6
                items 0 12 -> 1000001 4000003 3000013 1000004
                all element 0 0 -> 130101
                rule 0 5 : 0 / 1 -> 7
                items 0 12 -> 1000002 2000001 4000003
                # now nothing sorts as 3 and 4
                rule 0 7 : 1 2 / 3 -> 8
                # and an item that had never been in the list
                rule 0 4 : 28 / 5 24 -> 9
                items 0 0 -> 1000625 1000029
                all element 0 1 -> 10101
                """);
        Script.run("7 as several: of what others sort as several, the signs are still free to be moved", """
                rule 0 7 : 0 1 / 2 -> 1
                rule 0 0 : 3 / 0 -> 2
                text 2 -> 0
                # its capital begins the letters then, and that of 2 is ahead of 3
                all element 0 0 -> 160101 140101
                """);
    }

    private static void notPossible() {
        Script s = new Script("7 a rule that is not possible");
        s.lines("""
                rule 0 7 : 0 1 / 2 -> 1
                rule 0 7 : 0 14 / 3 24 -> 2
                rule 0 1 : 0 / 0 24 -> 3
                """);
        String[] impossible = {
            // the item: how it begins, of what it is, how long it is
            "1 : 0 / 24", "1 : 0 / 28", "1 : 0 / 29", "1 : 0 / 30", "1 : 0 / 39 0", "1 : 0 / 0 28", "1 : 0 / 0 30",
            "1 : 0 / 0 1 39", "1 : 0 / 0 1 29", "1 : 0 / 0 1 2 3", "1 : 0 / 0 24 24 24", "7 : 0 1 / 27 0", "7 : 0 1 / 0 0 0 0",
            // the anchor is the item
            "0 : 0 / 0", "1 : 0 / 0", "4 : 0 / 0", "1 : 0 24 / 0 24", "7 : 0 1 / 0 1",
            // the anchor is not in the list
            "0 : 2 / 5", "1 : 2 / 5", "2 : 3 24 / 5", "3 : 0 25 / 5", "4 : 24 / 5", "5 : 0 1 / 5", "6 : 28 28 / 5",
            "1 : 0 0 0 0 / 5", "4 : 2 / 5",
            // the anchor as which it sorts: how long it is, of what it is
            "7 : 0 / 5", "7 : 0 1 3 4 / 5", "7 : 0 24 / 5", "7 : 0 28 / 5", "7 : 30 0 / 5", "7 : 24 0 / 5",
            // not in the list as an item, or the item itself
            "7 : 2 0 / 5", "7 : 0 2 / 5", "7 : 0 1 2 / 5", "7 : 5 0 / 5", "7 : 0 5 / 5", "7 : 0 1 5 / 5",
            // others sort as it
            "7 : 3 4 / 0", "7 : 3 4 / 1", "7 : 3 4 / 14",
        };
        for (String rule : impossible) {
            s.lines("rule 0 " + rule + " -> ISE\nwipe");
        }
        s.lines("""
                rules 0 -> 3
                items 0 12 -> 1000001 3000013 1000125 1000002 3000014 1000015 1000004
                # what sorts as several itself can do so anew
                rule 0 7 : 3 4 / 2 -> 4
                # 1 is free then; 0 is not
                rule 0 7 : 5 4 / 0 -> ISE
                wipe -> 1
                rule 0 7 : 5 4 / 1 -> 5
                """);
    }

    private static void ruleThrows() {
        Script.run("7 what is thrown", """
                rule 0 1 -> ISE
                draft 1
                # there is no anchor
                rule 0 1 -> ISE
                rule 0 -1 -> IAE
                rule 0 8 -> IAE
                rule 0 2147483647 -> IAE
                rule 3 1 -> IOOBE
                rule -1 1 -> IOOBE
                rule 3 8 -> IOOBE
                rule -2147483648 8 -> IOOBE
                anchor -> 1
                # the draft is empty
                rule 0 1 -> ISE
                rule 0 7 -> ISE
                rule 2 8 -> IAE
                draft 0 24
                rule 3 1 -> IOOBE
                rule 0 8 -> IAE
                rules 0 -> 0
                # anchor and draft are still there
                rule 0 1 -> 1
                wipe -> 0
                items 0 16 -> 1000125 1000003
                # and gone with the rule, the anchor too
                draft 5
                rule 0 1 -> ISE
                wipe -> 1
                """);
        Script.run("7 at most 12 rules, of each tailoring", """
                times 11 rule 0 1 : 0 / 1
                rule 0 1 : 0 / 1 -> 12
                rule 0 1 : 0 / 1 -> ISE
                rules 0 -> 12
                rule 0 8 -> IAE
                rule 3 1 -> IOOBE
                # the anchor and the draft are still there
                rule 1 1 -> 1
                rule 0 7 : 0 1 / 2 -> ISE
                wipe -> 1
                itemAt 0 36 -> IOOBE
                """);
    }

    private static void adopt() {
        Script.run("8 adopt", """
                rule 0 1 : 0 / 0 24 -> 1
                rule 0 7 : 0 1 / 2 -> 2
                adopt 1 0 -> 2
                rules 0 -> 2
                rules 1 -> 2
                rules 2 -> 0
                items 1 12 -> 1000001 3000013 1000125 1000002 3000014 1000015
                # once more, behind those that are there
                rule 1 1 : 28 / 0 24 -> 3
                items 1 0 -> 1000029 1000125 1000030
                adopt 1 0 -> 5
                items 1 0 -> 1000029 1000030
                items 1 12 -> 1000001 3000013 1000125 1000002 3000014 1000015
                # none is told
                adopt 0 2 -> 2
                adopt 2 1 -> 5
                items 2 12 -> 1000001 3000013 1000125 1000002 3000014 1000015
                # the draft, the anchor and the options stay
                anchor 5 -> 1
                draft 4
                option 0 0 true -> false
                adopt 1 0 -> 7
                option 1 0 false -> false
                rule 1 0 -> 8
                """);
        Script.run("8 adopt in their order", """
                rule 2 1 : 0 / 0 1 -> 1
                rule 2 1 : 0 1 / 0 2 -> 2
                rule 2 1 : 0 1 / 0 3 -> 3
                adopt 0 2 -> 3
                items 0 13 -> 3000013 1000102 1000104 1000103 1000002
                # of what the other one sorts as several
                rule 2 7 : 4 5 / 3 -> 4
                text 3 -> 0
                all element 0 0 -> 190101
                adopt 0 2 -> 7
                all element 0 0 -> 200101 210101
                # all 12, and one more
                times 5 rule 0 1 : 0 / 1
                rules 0 -> 12
                adopt 1 0 -> 12
                adopt 1 2 -> ISE
                rule 2 0 : 0 / 1 -> 5
                adopt 0 2 -> ISE
                rules 0 -> 12
                """);
    }

    private static void adoptThrows() {
        Script.run("8 what is thrown", """
                adopt 0 0 -> IAE
                adopt 2 2 -> IAE
                adopt 3 3 -> IOOBE
                adopt 3 0 -> IOOBE
                adopt 0 3 -> IOOBE
                adopt -1 0 -> IOOBE
                adopt 0 -1 -> IOOBE
                adopt -1 -1 -> IOOBE
                rule 0 1 : 0 / 0 24 -> 1
                rule 0 7 : 0 1 / 2 -> 2
                rule 1 7 : 2 3 / 4 -> 1
                # 4 sorts as 2 and 3 there, so that the second rule is not possible, and the first one is not told
                adopt 1 0 -> ISE
                rules 1 -> 1
                items 1 13 -> 3000013 1000002 3000014 1000003 3000015 1000004 3000016 1000017
                text 2 0 24 4 -> 0
                all element 1 0 -> 150101 130101 201 150101 160101
                # an anchor that is not in the list there
                rule 2 1 : 0 24 / 3 -> ISE
                wipe -> 1
                rule 0 1 : 0 24 / 3 -> 3
                adopt 2 0 -> 3
                rule 0 7 : 0 1 / 0 24 -> 4
                rule 0 7 : 0 1 / 0 25 -> 5
                times 4 rule 2 0 : 0 / 1
                # 12 in all
                adopt 2 0 -> 12
                rule 1 0 : 0 / 1 -> 2
                rule 0 0 : 0 / 0 1 -> 6
                times 2 adopt 0 1 -> ISE
                rules 0 -> 6
                """);
        Script.run("8 more than 12", """
                times 7 rule 0 0 : 0 / 1
                times 6 rule 1 0 : 2 / 3
                adopt 1 0 -> ISE
                rules 1 -> 6
                items 1 14 -> 1000002 3000014
                adopt 0 1 -> ISE
                items 0 12 -> 1000001 4000002 3000013 1000014 1000003 3000015 1000004 3000016
                rule 2 0 : 5 / 4 -> 1
                adopt 2 1 -> 7
                adopt 0 2 -> ISE
                adopt 0 2 -> ISE
                rules 0 -> 7
                rule 2 0 : 5 / 4 -> 8
                """);
    }

    private static void option() {
        Script s = new Script("9 option");
        for (int t = 0; t < 3; t++) {
            for (int what = 0; what < 3; what++) {
                s.due(false, "option", t, what, true);
            }
        }
        for (int t = 0; t < 3; t++) {
            for (int what = 0; what < 3; what++) {
                s.due(true, "option", t, what, true);
                s.due(true, "option", t, what, false);
                s.due(false, "option", t, what, false);
            }
        }
        s.lines("""
                option 3 0 true -> IOOBE
                option -1 0 true -> IOOBE
                option 0 3 true -> IOOBE
                option 0 -1 true -> IOOBE
                option 2147483647 -2147483648 false -> IOOBE
                text 0 24 28 0 31 30 -> 0
                # shifted
                option 0 0 true -> false
                all keyAt 0 4 0 -> 14 14 5 4 1 63 66 4 1 6 1 101 101 2 101 101 101 1
                all keyAt 1 4 0 -> 14 2 14 5 4 1 63 66 5 1 7 1 1
                option 0 0 false -> true
                # backward
                option 1 1 true -> false
                all keyAt 1 2 0 -> 14 2 14 5 4 1 60 66 2 1
                all keyAt 0 2 0 -> 14 2 14 5 4 1 63 66 5 1
                # numbers by value
                option 2 2 true -> false
                all keyAt 2 1 0 -> 14 2 14 4 3 3 2 1
                all keyAt 1 1 0 -> 14 2 14 5 4 1
                option 2 2 false -> true
                all keyAt 2 1 0 -> 14 2 14 5 4 1
                """);
    }

    private static void rulesAndItems() {
        Script s = new Script("24 as many items as can be");
        for (int i = 0; i < 12; i++) {
            s.lines("rule 0 1 : 23 / 23 " + i + " -> " + (i + 1));
        }
        s.lines("items 0 36 -> 1002412 1002411 1002410 1002409\nitemAt 0 47 -> 1002401\nitemAt 0 48 -> IOOBE");
        s.lines("text 23 0 23 11 23 -> 0\nall element 0 0 -> 360101 250101 240102");
        Script.run("23 and 24", """
                rules 0 -> 0
                rules 3 -> IOOBE
                rules -1 -> IOOBE
                rules 2147483647 -> IOOBE
                itemAt 0 -1 -> IOOBE
                itemAt 0 36 -> IOOBE
                itemAt 0 -2147483648 -> IOOBE
                itemAt 0 2147483647 -> IOOBE
                itemAt 3 0 -> IOOBE
                itemAt -1 0 -> IOOBE
                itemAt 2 35 -> 3000024
                rule 2 2 : 0 / 23 27 24 -> 1
                rules 2 -> 1
                rules 1 -> 0
                # marks by their classes
                itemAt 2 14 -> 2242528
                itemAt 2 36 -> 3000024
                itemAt 2 37 -> IOOBE
                """);
    }
}
