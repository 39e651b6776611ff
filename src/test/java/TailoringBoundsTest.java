/** The promises 7 to 9, 23 and 24 (and the weights of 25) at their bounds: ahead of each test a remark says the sentence that it is about. */
public final class TailoringBoundsTest {
    private TailoringBoundsTest() {
    }

    public static void main(String[] args) {
        behind();
        theSame();
        ahead();
        leaving();
        asSeveral();
        possibleItems();
        possibleAnchors();
        possibleSeverals();
        ruleArguments();
        ruleThrows();
        weights();
        adopt();
        adoptThrows();
        option();
        rules();
        itemAt();
        Script.end();
    }

    private static void behind() {
        // "1, 2 or 3, behind on this level: the item goes behind the anchor, and behind all items that follow that one with greater levels than this, up to the first one with this level or a lesser one, and has this level"
        Script.run("Promise 7: level 3 behind, where the next one has just this level", """
                rule 0 3 : 0 / 0 0 -> 1
                items 0 12 -> 1000001 3000101 3000013 1000002
                """);
        // "and behind all items that follow that one with greater levels than this, up to the first one with this level or a lesser one"
        Script.run("Promise 7: level 3 behind, where the next one has a greater level, and a lesser one", """
                rule 0 0 : 12 / 0 0 -> 1
                rule 0 3 : 12 / 0 1 -> 2
                items 0 12 -> 1000001 3000013 4000101 3000102 1000002
                rule 0 3 : 0 1 / 0 2 -> 3
                items 0 12 -> 1000001 3000013 4000101 3000102 3000103 1000002
                """);
        // "and behind all items that follow that one with greater levels than this, up to the first one with this level or a lesser one"
        Script.run("Promise 7: level 2 behind levels 3 and 4, up to one with the level 2", """
                rule 0 2 : 0 / 0 0 -> 1
                items 0 12 -> 1000001 3000013 2000101 1000002
                rule 0 0 : 12 / 0 1 -> 2
                rule 0 2 : 0 / 0 2 -> 3
                items 0 12 -> 1000001 3000013 4000102 2000103 2000101 1000002
                """);
        // "and behind all items that follow that one with greater levels than this, up to the first one with this level or a lesser one"
        Script.run("Promise 7: level 1 behind levels 2 to 4, up to one with the level 1", """
                rule 0 0 : 12 / 0 0 -> 1
                rule 0 2 : 0 / 0 1 -> 2
                rule 0 1 : 0 / 0 2 -> 3
                items 0 12 -> 1000001 3000013 4000101 2000102 1000103 1000002
                rule 0 1 : 0 / 0 3 -> 4
                items 0 15 -> 2000102 1000104 1000103 1000002
                """);
        // "the item goes behind the anchor, and behind all items that follow that one with greater levels than this"
        Script.run("Promise 7: behind the last item of the list, and up to its end", """
                rule 0 1 : 23 / 0 0 -> 1
                itemAt 0 36 -> 1000101
                itemAt 0 37 -> IOOBE
                # only greater levels follow the anchor 11
                rule 1 2 : 11 / 0 0 -> 1
                itemAt 1 35 -> 3000024
                itemAt 1 36 -> 2000101
                itemAt 1 37 -> IOOBE
                rule 2 3 : 11 / 0 0 -> 1
                itemAt 2 35 -> 3000101
                itemAt 2 36 -> 3000024
                """);
        // "the item goes behind the anchor"
        Script.run("Promise 7: behind the first item of the list", """
                rule 0 1 : 28 / 0 0 -> 1
                items 0 0 -> 1000029 1000101 1000030
                rule 1 2 : 28 / 0 0 -> 1
                items 1 0 -> 1000029 2000101 1000030
                rule 2 3 : 28 / 0 0 -> 1
                items 2 0 -> 1000029 3000101 1000030
                """);
    }

    private static void theSame() {
        // "0, the same: likewise with the level 4"
        Script.run("Promise 7: no level is greater than 4", """
                rule 0 0 : 0 / 0 0 -> 1
                items 0 12 -> 1000001 4000101 3000013
                rule 0 0 : 0 / 0 1 -> 2
                items 0 12 -> 1000001 4000102 4000101 3000013
                rule 0 0 : 0 1 / 0 2 -> 3
                items 0 12 -> 1000001 4000102 4000103 4000101 3000013
                """);
        // "0, the same: likewise with the level 4"
        Script.run("Promise 7: the same as the first item, and as the last one", """
                rule 0 0 : 28 / 0 0 -> 1
                rule 0 0 : 23 / 0 1 -> 2
                items 0 0 -> 1000029 4000101 1000030
                items 0 36 -> 3000024 4000102
                itemAt 0 38 -> IOOBE
                """);
    }

    private static void ahead() {
        // "4, 5 or 6, ahead on the level 1, 2 or 3: let x be the anchor, if its level is at most that, otherwise the nearest item ahead of it whose level is."
        Script.run("Promise 7: an anchor with just the level, and with one more", """
                # level 3, ahead on 3
                rule 0 6 : 12 / 0 0 -> 1
                items 0 12 -> 1000001 3000101 3000013 1000002
                # level 3, ahead on 2: x is the letter 1
                rule 0 5 : 13 / 0 1 -> 2
                items 0 15 -> 1000102 2000002 3000014
                # level 2, ahead on 2: x is the anchor
                rule 0 5 : 1 / 0 2 -> 3
                items 0 15 -> 1000102 2000103 2000002 3000014
                # level 2, ahead on 1: x is 0 1
                rule 0 4 : 1 / 0 3 -> 4
                items 0 15 -> 1000104 1000102 2000103 2000002 3000014
                # level 1, ahead on 1: x is the anchor
                rule 0 4 : 0 1 / 0 4 -> 5
                items 0 15 -> 1000104 1000105 1000102 2000103
                """);
        // "otherwise the nearest item ahead of it whose level is"
        Script.run("Promise 7: an anchor with the level 4, ahead on 3, 2 and 1", """
                rule 0 0 : 12 / 0 0 -> 1
                # the capital 12 has the level 3
                rule 0 6 : 0 0 / 0 1 -> 2
                items 0 12 -> 1000001 3000102 3000013 4000101 1000002
                rule 0 5 : 0 0 / 0 2 -> 3
                items 0 12 -> 1000103 2000001 3000102 3000013 4000101
                rule 0 4 : 0 0 / 0 3 -> 4
                items 0 12 -> 1000104 1000103 2000001 3000102
                """);
        // "The item goes just ahead of x, with the level that x has, and x has this level then."
        Script.run("Promise 7: ahead of an item with the level 1, on 1, 2 and 3", """
                rule 0 4 : 0 / 0 0 -> 1
                items 0 12 -> 1000101 1000001 3000013
                rule 1 5 : 0 / 0 0 -> 1
                items 1 12 -> 1000101 2000001 3000013
                rule 2 6 : 0 / 0 0 -> 1
                items 2 12 -> 1000101 3000001 3000013
                """);
        // "(The first item of the list has the level 1.)"
        Script.run("Promise 7: ahead of the first item", """
                rule 0 4 : 28 / 0 0 -> 1
                items 0 0 -> 1000101 1000029 1000030
                rule 1 5 : 28 / 0 0 -> 1
                items 1 0 -> 1000101 2000029 1000030
                rule 2 6 : 28 / 0 0 -> 1
                items 2 0 -> 1000101 3000029 1000030
                # what stands behind the first one with greater levels only
                rule 2 5 : 28 / 0 1 -> 2
                items 2 0 -> 1000102 2000101 3000029 1000030
                rule 2 4 : 28 / 0 2 -> 3
                items 2 0 -> 1000103 1000102 2000101 3000029 1000030
                """);
        // "4, 5 or 6, ahead on the level 1, 2 or 3"
        Script.run("Promise 7: ahead of the last item", """
                rule 0 6 : 23 / 0 0 -> 1
                items 0 34 -> 1000012 3000101 3000024
                rule 1 5 : 23 / 0 0 -> 1
                items 1 34 -> 1000101 2000012 3000024
                rule 2 4 : 23 / 0 0 -> 1
                items 2 34 -> 1000101 1000012 3000024
                itemAt 2 37 -> IOOBE
                """);
    }

    private static void leaving() {
        // "An item that is in the list already leaves its place first: the item behind it has the lesser one of both levels then."
        Script.run("Promise 7: the first item of the list leaves", """
                rule 0 6 : 28 / 0 0 -> 1
                items 0 0 -> 1000101 3000029 1000030
                rule 0 1 : 23 / 0 0 -> 2
                items 0 0 -> 1000029 1000030
                itemAt 0 36 -> 1000101
                itemAt 0 37 -> IOOBE
                """);
        // "An item that is in the list already leaves its place first: the item behind it has the lesser one of both levels then."
        Script.run("Promise 7: the last item of the list leaves, with none behind it", """
                rule 0 1 : 0 / 23 -> 1
                items 0 12 -> 1000001 3000013 1000024 1000002
                itemAt 0 35 -> 1000012
                itemAt 0 36 -> IOOBE
                # and comes back behind the last one
                rule 0 3 : 11 / 23 -> 2
                items 0 14 -> 1000002
                itemAt 0 35 -> 3000024
                itemAt 0 36 -> IOOBE
                """);
        // "the item behind it has the lesser one of both levels then"
        Script.run("Promise 7: a lesser level leaves, a greater one, and the same", """
                # 1 leaves, and 3 is behind it
                rule 0 1 : 23 / 0 -> 1
                items 0 12 -> 1000013 1000002 3000014
                # 3 leaves, and 1 is behind it
                rule 0 1 : 23 / 13 -> 2
                items 0 12 -> 1000013 1000002 1000003
                # 1 leaves, and 1 is behind it
                rule 0 1 : 23 / 1 -> 3
                items 0 12 -> 1000013 1000003 3000015
                # 4 leaves, and 3 is behind it
                rule 0 0 : 2 / 2 2 -> 4
                items 0 13 -> 1000003 4000303 3000015
                rule 0 1 : 23 / 2 2 -> 5
                items 0 13 -> 1000003 3000015 1000004
                """);
        // "An item that is in the list already leaves its place first"
        Script.run("Promise 7: an item that goes where it was", """
                rule 0 1 : 12 / 1 -> 1
                items 0 12 -> 1000001 3000013 1000002 1000014
                rule 0 3 : 0 / 12 -> 2
                items 0 12 -> 1000001 3000013 1000002 1000014
                itemAt 0 36 -> IOOBE
                """);
    }

    private static void asSeveral() {
        // "7, as several: the item is in the list no more, but sorts as the signs of the anchor, one by one, each taken as an item of one sign."
        Script.run("Promise 7: an item that was in the list, the first one, the last one, and one that never was", """
                rule 0 7 : 0 1 / 23 -> 1
                itemAt 0 34 -> 1000012
                itemAt 0 35 -> IOOBE
                rule 0 4 : 28 / 5 -> 2
                rule 0 7 : 0 1 / 5 -> 3
                items 0 0 -> 1000029 1000030
                itemAt 0 33 -> 1000012
                itemAt 0 34 -> IOOBE
                rule 0 7 : 0 1 / 2 2 -> 4
                itemAt 0 33 -> 1000012
                itemAt 0 34 -> IOOBE
                text 23 5 -> 0
                all element 0 0 -> 130101 140101 130101 140101
                """);
        // "What sorted as several does so no more, if a rule of the sorts 0 to 6 puts it into the list."
        for (int how = 0; how < 7; how++) {
            Script.run("Promise 7: what sorted as several comes into the list by the sort " + how, """
                    rule 0 7 : 1 2 / 0 0 -> 1
                    text 0 0 -> 0
                    all element 0 0 -> 140101 150101
                    rule 0 HOW : 28 / 0 0 -> 2
                    element 0 0 1 -> -1
                    itemAt 0 37 -> IOOBE
                    itemAt 0 36 -> 3000024
                    """.replace("HOW", String.valueOf(how)));
        }
        // "7, as several"
        Script.run("Promise 7: 12 items that sort as several", """
                rule 0 7 : 22 23 / 0 -> 1
                rule 0 7 : 22 23 / 1 -> 2
                rule 0 7 : 22 23 / 2 -> 3
                rule 0 7 : 22 23 / 3 -> 4
                rule 0 7 : 22 23 / 4 -> 5
                rule 0 7 : 22 23 / 5 -> 6
                rule 0 7 : 22 23 / 6 -> 7
                rule 0 7 : 22 23 / 7 -> 8
                rule 0 7 : 22 23 / 8 -> 9
                rule 0 7 : 22 23 / 9 -> 10
                rule 0 7 : 22 23 / 10 -> 11
                rule 0 7 : 22 23 22 / 11 -> 12
                # the capitals are left, each with the level of its letter
                items 0 11 -> 1000040 1000013 1000014
                items 0 21 -> 1000022 1000023 1000024
                itemAt 0 24 -> IOOBE
                text 0 11 -> 0
                all element 0 0 -> 230101 240101 230101 240101 230101
                """);
    }

    private static void possibleItems() {
        // "A rule is possible, if the first sign of the item is a letter or a capital"
        Script.run("Promise 7: the first and the last letter and capital begin an item, and what is next to them does not", """
                rule 0 1 : 28 / 0 0 -> 1
                rule 0 1 : 28 / 11 0 -> 2
                rule 0 1 : 28 / 12 0 -> 3
                rule 0 1 : 28 / 23 0 -> 4
                norule 0 1 : 28 / 24 0
                norule 0 1 : 0 / 28
                norule 0 1 : 0 / 29
                norule 0 1 : 0 / 30
                norule 0 1 : 0 / 39
                norule 0 7 : 0 1 / 24
                rules 0 -> 4
                """);
        // "and all others are letters, capitals or marks, at most 3"
        Script.run("Promise 7: the second and the third sign of an item", """
                rule 0 1 : 28 / 0 27 -> 1
                norule 0 1 : 28 / 0 28
                norule 0 1 : 28 / 0 29
                norule 0 1 : 28 / 0 30
                norule 0 1 : 28 / 0 39
                rule 0 1 : 28 / 0 23 27 -> 2
                norule 0 1 : 28 / 0 23 28
                norule 0 1 : 28 / 0 28 23
                norule 0 1 : 28 / 0 23 30
                rule 0 1 : 28 / 0 24 0 -> 3
                rules 0 -> 3
                """);
        // "an item being a row of 1 to 3 signs that are not composed"
        Script.run("Promise 7: items of 1 sign to 4 signs, and of 10", """
                rule 0 1 : 28 / 0 -> 1
                rule 0 1 : 28 / 0 1 -> 2
                rule 0 1 : 28 / 0 1 2 -> 3
                norule 0 1 : 28 / 0 1 2 3
                norule 0 7 : 1 2 / 0 1 2 3
                norule 0 1 : 28 / 0 1 2 3 4 5 6 7 8 9
                items 0 0 -> 1000029 1010203 1000102 1000001 1000030
                """);
        // "A rule has an anchor and an item, both taken apart"
        Script.run("Promise 7: composed signs in an item, which has 3 signs taken apart, and 4", """
                compose 40 0 24 -> 1
                compose 41 40 25 -> 2
                rule 0 1 : 28 / 40 -> 1
                items 0 1 -> 1000125
                rule 0 1 : 28 / 41 -> 2
                items 0 1 -> 1012526
                norule 0 1 : 28 / 41 26
                rule 0 1 : 28 / 40 1 -> 3
                items 0 1 -> 1012502
                norule 0 1 : 28 / 40 40
                # a composed sign is the anchor, too
                rule 0 1 : 40 / 1 -> 4
                items 0 1 -> 1012502 1012526 1000125 1000002
                rule 0 1 : 41 / 2 -> 5
                items 0 1 -> 1012502 1012526 1000003
                """);
    }

    private static void possibleAnchors() {
        // "and if the anchor is another one"
        for (int how = 0; how < 8; how++) {
            Script.run("Promise 7: the anchor is the item, by the sort " + how, """
                    norule 0 HOW : 0 / 0
                    norule 0 HOW : 0 1 / 0 1
                    rules 0 -> 0
                    """.replace("HOW", String.valueOf(how)));
        }
        // "and if the anchor is another one"
        Script.run("Promise 7: anchor and item are the same taken apart", """
                compose 40 0 24 -> 1
                rule 0 1 : 28 / 40 -> 1
                norule 0 1 : 40 / 0 24
                rule 0 1 : 28 / 0 24 27 -> 2
                # marks in another order
                norule 0 1 : 0 24 27 / 0 27 24
                # one sign more, and one less
                rule 0 1 : 0 24 / 0 24 26 -> 3
                rule 0 1 : 0 24 26 / 0 -> 4
                """);
        // "for 0 to 6, if the anchor is in the list"
        // "Marks are no items."
        for (int how = 0; how < 7; how++) {
            Script.run("Promise 7: an anchor that is not in the list, by the sort " + how, """
                    norule 0 HOW : 24 / 1
                    norule 0 HOW : 27 / 1
                    norule 0 HOW : 0 0 / 1
                    norule 0 HOW : 28 28 / 1
                    norule 0 HOW : 0 0 0 0 / 1
                    rules 0 -> 0
                    rule 0 HOW : 28 / 1 -> 1
                    rule 0 HOW : 29 / 1 -> 2
                    rule 0 HOW : 30 / 1 -> 3
                    rule 0 HOW : 39 / 1 -> 4
                    rule 0 HOW : 23 / 1 -> 5
                    """.replace("HOW", String.valueOf(how)));
        }
        // "for 0 to 6, if the anchor is in the list"
        Script.run("Promise 7: an anchor of 30 signs, one that left the list, and one that came into it", """
                compose 40 0 24 -> 1
                compose 41 40 25 -> 2
                norule 0 1 : 41 41 41 41 41 41 41 41 41 41 / 1
                rule 0 7 : 1 2 / 0 -> 1
                norule 0 1 : 0 / 5
                rule 0 1 : 28 / 0 -> 2
                rule 0 1 : 0 / 5 -> 3
                rule 0 1 : 5 / 0 0 0 -> 4
                rule 0 1 : 0 0 0 / 4 -> 5
                """);
    }

    private static void possibleSeverals() {
        // "for 7, if the anchor has 2 or 3 signs"
        Script.run("Promise 7: anchors of 1 sign to 4 signs", """
                norule 0 7 : 1 / 0
                rule 0 7 : 1 2 / 0 -> 1
                rule 0 7 : 1 2 3 / 0 -> 2
                norule 0 7 : 1 2 3 4 / 0
                text 0 -> 0
                all element 0 0 -> 140101 150101 160101
                """);
        // "each of them is a letter or a capital and in the list as an item"
        Script.run("Promise 7: the first and the last letter and capital, and what is next to them", """
                rule 0 7 : 0 11 / 5 -> 1
                rule 0 7 : 12 23 / 5 -> 2
                norule 0 7 : 0 24 / 5
                norule 0 7 : 0 28 / 5
                norule 0 7 : 30 0 / 5
                norule 0 7 : 0 1 39 / 5
                norule 0 7 : 0 29 1 / 5
                norule 0 7 : 28 0 1 / 5
                rules 0 -> 2
                """);
        // "each of them is a letter or a capital and in the list as an item"
        Script.run("Promise 7: one that is in the list no more, as the first, the second and the third", """
                rule 0 7 : 1 2 / 0 -> 1
                norule 0 7 : 0 1 / 5
                norule 0 7 : 1 0 / 5
                norule 0 7 : 1 2 0 / 5
                # both are an item together, and each for itself, too
                rule 0 1 : 28 / 1 2 -> 2
                rule 0 7 : 1 2 / 5 -> 3
                """);
        // "none of them is the item"
        Script.run("Promise 7: the item as the first, the second and the third", """
                norule 0 7 : 0 1 2 / 0
                norule 0 7 : 1 0 2 / 0
                norule 0 7 : 1 2 0 / 0
                norule 0 7 : 1 0 / 0
                # an item of two signs is none of them
                rule 0 7 : 0 1 2 / 0 1 -> 1
                # nor is the capital
                rule 0 7 : 4 5 15 / 3 -> 2
                """);
        // "and no other item sorts as several of which one is the item"
        Script.run("Promise 7: others sort as it, first, second and third; and it does so itself", """
                rule 0 7 : 1 2 3 / 0 -> 1
                norule 0 7 : 5 6 / 1
                norule 0 7 : 5 6 / 2
                norule 0 7 : 5 6 / 3
                rule 0 7 : 5 6 / 4 -> 2
                # itself is no other item
                rule 0 7 : 5 6 / 0 -> 3
                rule 0 7 : 6 7 / 1 -> 4
                # 0 and 4 sort as 5 and 6
                norule 0 7 : 8 9 / 6
                rule 0 0 : 28 / 0 -> 5
                norule 0 7 : 8 9 / 6
                rule 0 0 : 28 / 4 -> 6
                # 1 sorts as 6 and 7
                norule 0 7 : 8 9 / 6
                rule 0 7 : 8 9 / 5 -> 7
                """);
    }

    private static void ruleArguments() {
        // "`tailoring`: 0 to 2"
        // "Throws `IndexOutOfBoundsException` if there is no such tailoring"
        Script.run("Promise 7: tailorings from 0 to 2, and none of these", """
                anchor 0 -> 1
                sign 1 -> 1
                rule -1 1 -> IOOBE
                rule 3 1 -> IOOBE
                rule least 1 -> IOOBE
                rule greatest 1 -> IOOBE
                rule 0 1 -> 1
                rule 1 1 : 0 / 1 -> 1
                rule 2 1 : 0 / 1 -> 1
                """);
        // "`how`: 0 to 7"
        // "Throws `IllegalArgumentException` if how is out of range"
        Script.run("Promise 7: sorts from 0 to 7, and none of these", """
                anchor 1 2 -> 2
                sign 0 -> 1
                rule 0 -1 -> IAE
                rule 0 8 -> IAE
                rule 0 least -> IAE
                rule 0 greatest -> IAE
                rule 0 7 -> 1
                rule 0 0 : 28 / 0 -> 2
                rule 0 1 : 28 / 0 -> 3
                rule 0 2 : 28 / 0 -> 4
                rule 0 3 : 28 / 0 -> 5
                rule 0 4 : 28 / 0 -> 6
                rule 0 5 : 28 / 0 -> 7
                rule 0 6 : 28 / 0 -> 8
                """);
        // "Returns how many rules the tailoring has then."
        Script.run("Promise 7: each tailoring counts for itself", """
                rule 0 1 : 0 / 1 -> 1
                rule 0 1 : 0 / 1 -> 2
                rule 1 1 : 0 / 1 -> 1
                rule 2 1 : 0 / 1 -> 1
                rule 0 1 : 0 / 1 -> 3
                """);
        // "Tells a rule with the anchor and the draft, both of which are gone then."
        Script.run("Promise 7: the anchor and the draft are gone then", """
                rule 0 1 : 0 / 1 -> 1
                wipe -> 0
                sign 2 -> 1
                rule 0 1 -> ISE
                anchor -> 1
                rule 0 1 -> ISE
                sign 3 -> 1
                rule 0 1 -> 2
                """);
    }

    private static void ruleThrows() {
        // "Throws `IllegalStateException` if there is no anchor, the draft is empty, the rule is not possible, or there are 12"
        Script.run("Promise 7: no anchor, no draft, and neither of them", """
                rule 0 1 -> ISE
                rule 0 7 -> ISE
                sign 1 -> 1
                rule 0 1 -> ISE
                rule 0 7 -> ISE
                wipe -> 1
                anchor 0 -> 1
                rule 0 1 -> ISE
                rule 0 7 -> ISE
                sign 1 -> 1
                rule 0 1 -> 1
                """);
        // "A tailoring has at most 12 rules."
        for (int how = 0; how < 8; how++) {
            Script.run("Promise 7: the 12th rule and the 13th, by the sort " + how, """
                    times 11 rule 0 1 : 0 / 1
                    rule 0 HOW : ANCHOR / 4 -> 12
                    rule 0 HOW : ANCHOR / 4 -> ISE
                    rules 0 -> 12
                    # anchor and draft are left for another tailoring
                    rule 1 HOW -> 1
                    wipe -> 0
                    """.replace("HOW", String.valueOf(how)).replace("ANCHOR", how == 7 ? "2 3" : "28"));
        }
        // "If several apply, the one that the throws clause names first is thrown."
        Script.run("Promise 7: what is named first, without anchor and draft", """
                rule 3 8 -> IOOBE
                rule -1 -1 -> IOOBE
                rule 3 1 -> IOOBE
                rule 0 8 -> IAE
                rule 0 -1 -> IAE
                rule 0 0 -> ISE
                """);
        // "If several apply, the one that the throws clause names first is thrown."
        Script.run("Promise 7: what is named first, with 12 rules, and with one that is not possible", """
                times 12 rule 0 1 : 0 / 1
                anchor 0 -> 1
                sign 0 -> 1
                rule 3 8 -> IOOBE
                rule 3 0 -> IOOBE
                rule 0 8 -> IAE
                rule 0 7 -> ISE
                rule 1 8 -> IAE
                rule 1 7 -> ISE
                """);
        // "A call that throws an exception changes nothing."
        Script.run("Promise 7: an impossible rule leaves the list, the rules, the anchor and the draft", """
                rule 0 7 : 1 2 / 0 -> 1
                # the item sorts as several, and would leave that
                norule 0 1 : 24 / 0
                text 0 -> 0
                all element 0 0 -> 140101 150101
                # 0 is in the list no more, and its capital begins the letters
                items 0 11 -> 1000040 1000013 1000002
                rules 0 -> 1
                # the anchor 24 is still there
                sign 3 -> 1
                rule 0 1 -> ISE
                anchor -> 1
                sign 4 -> 1
                rule 0 0 -> 2
                """);
    }

    private static void weights() {
        // "the first item has the weights 1, 1, 1; an item with the level 1 has 1 more than the one ahead of it for the first weight, and 1 and 1"
        // "The list is gone through"
        Script.run("Promise 25: the least weights and the greatest at first", """
                text 28 29 11 23 -> 0
                all element 0 0 -> 10101 20101 240101 240102
                """);
        // "with the level 2 the same first weight, 1 more for the second one, and 1; with the level 3 the same first two, and 1 more for the third one; with the level 4 the same three"
        Script.run("Promise 25: each level behind each one", """
                rule 0 0 : 23 / 0 0 -> 1
                rule 0 3 : 0 0 / 0 1 -> 2
                rule 0 2 : 0 1 / 0 2 -> 3
                rule 0 0 : 0 2 / 0 3 -> 4
                rule 0 2 : 0 3 / 0 4 -> 5
                rule 0 3 : 0 4 / 0 5 -> 6
                rule 0 1 : 0 5 / 0 6 -> 7
                rule 0 2 : 0 6 / 0 7 -> 8
                text 0 0 0 1 0 2 0 3 -> 0
                text 0 4 0 5 0 6 0 7 -> 1
                all element 0 0 -> 240102 240103 240201 240201
                all element 0 1 -> 240301 240302 250101 250201
                """);
        weightsOfTwelve(1, 360101);
        weightsOfTwelve(2, 241301);
        weightsOfTwelve(3, 240114);
        weightsOfTwelve(0, 240102);
        // "(The first item of the list has the level 1.)"
        Script.run("Promise 25: the first item has the weights 1, 1, 1, whichever it is", """
                rule 0 6 : 28 / 5 -> 1
                text 5 28 29 -> 0
                all element 0 0 -> 10101 10102 20101
                rule 0 1 : 23 / 5 -> 2
                # 5 is behind the letters, and its capital has the level 1 then
                all element 0 0 -> 250101 10101 20101
                """);
    }

    /** 12 items behind the last one of the list: the weights of the last one then. */
    private static void weightsOfTwelve(int how, int last) {
        // "A tailoring has at most 12 rules."
        Script s = new Script("Promise 25: 12 items more, by the sort " + how);
        for (int i = 0; i < 12; i++) {
            s.lines("rule 0 " + how + " : " + (i == 0 ? "23" : "0 " + (i - 1)) + " / 0 " + i + " -> " + (i + 1));
        }
        s.lines("text 0 11 -> 0\nall element 0 0 -> " + last);
        s.lines("itemAt 0 47 -> " + (how == 0 ? 4 : how) + "000112\nitemAt 0 48 -> IOOBE");
    }

    private static void adopt() {
        // "Returns how many rules it has then."
        Script.run("Promise 8: no rules, of both, of one, and of the other one", """
                adopt 0 1 -> 0
                rule 0 0 : 0 / 1 -> 1
                adopt 0 1 -> 1
                adopt 1 0 -> 1
                items 1 12 -> 1000001 4000002 3000013
                rules 0 -> 1
                rules 2 -> 0
                """);
        // "or there would be more than 12"
        Script.run("Promise 8: 12 in all, as 12 and none, none and 12, 6 and 6", """
                times 12 rule 0 0 : 0 / 1
                adopt 0 1 -> 12
                adopt 1 0 -> 12
                rules 1 -> 12
                adopt 1 2 -> 12
                times 6 rule 2 0 : 0 / 1
                adopt 2 0 -> ISE
                rules 2 -> 6
                """);
        // "or there would be more than 12"
        Script.run("Promise 8: 6 and 6, and then one more", """
                times 6 rule 0 0 : 0 / 1
                times 6 rule 1 0 : 2 / 3
                adopt 1 0 -> 12
                items 1 12 -> 1000001 4000002 3000013 1000014
                items 0 18 -> 1000004
                adopt 1 2 -> 12
                rule 2 0 : 0 / 1 -> 1
                adopt 1 2 -> ISE
                adopt 2 0 -> 7
                adopt 2 0 -> ISE
                rules 2 -> 7
                """);
        // "Tells all rules of a tailoring in another one, in their order."
        Script.run("Promise 8: the first rule and the last one, each in its turn", """
                rule 0 1 : 28 / 0 0 -> 1
                rule 0 1 : 0 0 / 0 1 -> 2
                rule 0 7 : 2 3 / 0 0 -> 3
                rule 0 1 : 0 1 / 0 2 -> 4
                adopt 2 0 -> 4
                items 2 0 -> 1000029 1000102 1000103 1000030
                text 0 0 -> 0
                all element 2 0 -> 170101 180101
                """);
        // "Tells all rules of a tailoring in another one, in their order."
        Script.run("Promise 8: from one that adopted them itself", """
                rule 0 1 : 28 / 0 0 -> 1
                rule 0 7 : 1 2 / 3 -> 2
                adopt 1 0 -> 2
                rule 1 0 : 0 0 / 4 -> 3
                adopt 2 1 -> 3
                items 2 0 -> 1000029 1000101 4000005 1000030
                text 3 -> 0
                all element 2 0 -> 150101 160101
                adopt 2 1 -> 6
                items 2 0 -> 1000029 1000101 4000005 1000030
                all element 2 0 -> 150101 160101
                """);
        // "Tells all rules of a tailoring in another one"
        Script.run("Promise 8: the rules alone, not the options, and neither anchor nor draft", """
                rule 0 0 : 0 / 1 -> 1
                option 0 0 true -> false
                option 0 1 true -> false
                option 0 2 true -> false
                option 1 1 true -> false
                anchor 0 -> 1
                draft 2 24
                adopt 1 0 -> 1
                option 1 0 false -> false
                option 1 1 true -> true
                option 1 2 false -> false
                option 0 0 true -> true
                rule 1 0 -> 2
                items 1 12 -> 1000001 4000325 4000002
                """);
    }

    private static void adoptThrows() {
        // "`to`: 0 to 2"
        // "`from`: 0 to 2"
        // "Throws `IndexOutOfBoundsException` if there is no such tailoring, of either"
        Script.run("Promise 8: no such tailoring, of each", """
                adopt -1 0 -> IOOBE
                adopt 3 0 -> IOOBE
                adopt least 0 -> IOOBE
                adopt greatest 0 -> IOOBE
                adopt 0 -1 -> IOOBE
                adopt 0 3 -> IOOBE
                adopt 0 least -> IOOBE
                adopt 0 greatest -> IOOBE
                adopt 0 2 -> 0
                adopt 2 0 -> 0
                """);
        // "Throws `IllegalArgumentException` if both are the same"
        Script.run("Promise 8: both are the same", """
                adopt 0 0 -> IAE
                adopt 1 1 -> IAE
                adopt 2 2 -> IAE
                rules 0 -> 0
                """);
        // "If several apply, the one that the throws clause names first is thrown."
        Script.run("Promise 8: both are the same, and there is no such tailoring, or there would be too many", """
                adopt -1 -1 -> IOOBE
                adopt 3 3 -> IOOBE
                adopt least least -> IOOBE
                adopt greatest greatest -> IOOBE
                times 7 rule 0 0 : 0 / 1
                # it would have 14
                adopt 0 0 -> IAE
                times 6 rule 1 0 : 0 / 1
                adopt 0 1 -> ISE
                adopt 0 3 -> IOOBE
                """);
        // "Throws `IllegalStateException` if one of them is not possible then, or there would be more than 12"
        Script.run("Promise 8: the first one is not possible", """
                rule 0 0 : 0 / 1 -> 1
                rule 0 0 : 2 / 3 -> 2
                rule 1 7 : 4 5 / 0 -> 1
                adopt 1 0 -> ISE
                rules 1 -> 1
                items 1 11 -> 1000040 1000013 1000002
                # it is, when 0 is in the list again
                rule 1 0 : 28 / 0 -> 2
                adopt 1 0 -> 4
                """);
        // "Throws `IllegalStateException` if one of them is not possible then, or there would be more than 12"
        Script.run("Promise 8: the last one is not possible, and those ahead of it are not told either", """
                rule 0 0 : 2 / 3 -> 1
                rule 0 7 : 5 6 / 4 -> 2
                rule 0 0 : 0 / 1 -> 3
                rule 1 7 : 2 3 / 0 -> 1
                text 4 -> 0
                # 3 is one of those as which 0 sorts: it can be moved; but 0 is no anchor
                adopt 1 0 -> ISE
                rules 1 -> 1
                items 1 14 -> 3000014 1000003 3000015 1000004 3000016 1000005
                all element 1 0 -> 170101
                itemAt 1 34 -> 3000024
                itemAt 1 35 -> IOOBE
                """);
        // "if one of them is not possible then"
        Script.run("Promise 8: not possible by the rules that are there", """
                rule 0 0 : 28 / 5 -> 1
                rule 0 7 : 5 6 / 4 -> 2
                rule 1 7 : 4 7 / 0 -> 1
                # 0 sorts as 4 and 7
                adopt 1 0 -> ISE
                rules 1 -> 1
                items 1 0 -> 1000029 1000030
                # and the other way round 4 is in the list no more
                adopt 0 1 -> ISE
                rules 0 -> 2
                items 0 0 -> 1000029 4000006 1000030
                """);
        // "A call that throws an exception changes nothing."
        Script.run("Promise 8: what threw is no last call, either", """
                text 0 -> 0
                text 1 -> 1
                entry -1 0 1 -> 0
                entry -1 1 1 -> 1
                rule 0 4 : 0 / 1 -> 1
                moved 0 -> 2
                adopt 0 0 -> IAE
                adopt 0 3 -> IOOBE
                rule 2 0 : 28 / 5 5 -> 1
                rule 2 0 : 5 5 / 6 -> 2
                times 10 rule 2 0 : 28 / 6
                adopt 0 2 -> ISE
                moved 0 -> 2
                rules 0 -> 1
                items 0 0 -> 1000029 1000030
                """);
    }

    private static void option() {
        // "`what`: 0 shifted, 1 backward, 2 numbers by value"
        // "Throws `IndexOutOfBoundsException` if there is no such tailoring, or what is out of range"
        Script.run("Promise 9: what is out of range", """
                option 0 -1 true -> IOOBE
                option 0 3 true -> IOOBE
                option 0 least true -> IOOBE
                option 0 greatest true -> IOOBE
                option 0 0 false -> false
                option 0 1 false -> false
                option 0 2 false -> false
                """);
        // "Throws `IndexOutOfBoundsException` if there is no such tailoring, or what is out of range"
        // "`tailoring`: 0 to 2"
        Script.run("Promise 9: no such tailoring, and both", """
                option -1 0 true -> IOOBE
                option 3 0 true -> IOOBE
                option least 0 true -> IOOBE
                option greatest 0 true -> IOOBE
                option 3 3 true -> IOOBE
                option -1 -1 false -> IOOBE
                option least greatest true -> IOOBE
                option 0 0 false -> false
                option 2 0 false -> false
                """);
        // "Returns whether it did."
        // "Sets how a tailoring goes."
        // "`isOn`: whether it does so from now on"
        Script.run("Promise 9: on, on again, off and off again; each for itself", """
                option 2 2 true -> false
                option 2 2 true -> true
                option 2 2 false -> true
                option 2 2 false -> false
                option 2 1 true -> false
                option 2 0 true -> false
                option 2 2 true -> false
                option 1 1 false -> false
                option 1 0 false -> false
                option 2 1 false -> true
                option 2 0 true -> true
                """);
        // "A call that throws an exception changes nothing."
        Script.run("Promise 9: what threw set nothing", """
                option 0 2 true -> false
                option 0 3 false -> IOOBE
                option 3 2 false -> IOOBE
                option 0 -1 false -> IOOBE
                option 0 2 true -> true
                option 0 1 false -> false
                option 1 2 false -> false
                """);
    }

    private static void rules() {
        // "`int rules(int tailoring) throws IndexOutOfBoundsException`: Returns how many rules a tailoring has."
        // "Throws `IndexOutOfBoundsException` if there is no such tailoring"
        // "`tailoring`: 0 to 2"
        Script.run("Promise 23: none, 1 and 12 rules, and tailorings that are none", """
                rules 0 -> 0
                rule 0 0 : 0 / 1 -> 1
                rules 0 -> 1
                times 10 rule 0 0 : 0 / 1
                rules 0 -> 11
                rule 0 0 : 0 / 1 -> 12
                rules 0 -> 12
                norule 0 0 : 0 / 1
                rules 0 -> 12
                rules 1 -> 0
                rules 2 -> 0
                rules -1 -> IOOBE
                rules 3 -> IOOBE
                rules least -> IOOBE
                rules greatest -> IOOBE
                """);
        // "Returns how many."
        Script.run("Promise 23: options and anchors are no rules", """
                option 1 0 true -> false
                anchor 0 -> 1
                rules 1 -> 0
                rule 1 9 -> IAE
                rules 1 -> 0
                rule 1 1 -> ISE
                rules 1 -> 0
                """);
    }

    private static void itemAt() {
        // "Throws `IndexOutOfBoundsException` if there is no such tailoring or item"
        // "`tailoring`: 0 to 2"
        Script.run("Promise 24: no such tailoring", """
                itemAt -1 0 -> IOOBE
                itemAt 3 0 -> IOOBE
                itemAt least 0 -> IOOBE
                itemAt greatest 0 -> IOOBE
                itemAt 3 36 -> IOOBE
                itemAt 0 0 -> 1000029
                itemAt 2 0 -> 1000029
                """);
        // "Throws `IndexOutOfBoundsException` if there is no such tailoring or item"
        // "`index`: from 0"
        Script.run("Promise 24: the first item and the last one, and none of these", """
                itemAt 0 0 -> 1000029
                itemAt 0 35 -> 3000024
                itemAt 0 -1 -> IOOBE
                itemAt 0 36 -> IOOBE
                itemAt 0 least -> IOOBE
                itemAt 0 greatest -> IOOBE
                rule 0 0 : 0 / 0 0 -> 1
                itemAt 0 36 -> 3000024
                itemAt 0 37 -> IOOBE
                rule 0 7 : 1 2 / 0 0 -> 2
                itemAt 0 36 -> IOOBE
                rule 0 7 : 1 2 / 0 -> 3
                itemAt 0 34 -> 3000024
                itemAt 0 35 -> IOOBE
                """);
        // "Returns 1000000 times its level, and its signs, each with 1 more, as a number of at most three digits to the base 100, the first one the highest digit, together."
        // "Returns an item of the order list."
        // "each item but the first one has a level, 1 to 4, on which it differs from the one ahead of it"
        Script.run("Promise 24: the least item and the greatest, of 1 sign, 2 and 3, on the levels 1 to 4", """
                itemAt 0 12 -> 1000001
                itemAt 0 11 -> 1000040
                rule 0 0 : 23 / 23 27 27 -> 1
                itemAt 0 36 -> 4242828
                rule 0 3 : 23 / 0 0 0 -> 2
                itemAt 0 37 -> 3010101
                rule 0 2 : 28 / 23 27 -> 3
                itemAt 0 1 -> 2002428
                rule 0 1 : 28 / 0 0 -> 4
                itemAt 0 2 -> 1000101
                """);
    }
}
