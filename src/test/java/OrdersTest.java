/** The promises 25 to 29: elements, keys, comparing and finding. */
public final class OrdersTest {
    private OrdersTest() {
    }

    public static void main(String[] args) {
        elementsOfSigns();
        elementsOfNumbers();
        elementsOfItems();
        elementsWithMarks();
        elementsAsSeveral();
        keys();
        longKeys();
        shiftedKeys();
        compare();
        compareThrows();
        find();
        findEdges();
        findThrows();
        Script.end();
    }

    private static void elementsOfSigns() {
        Script.run("25 elements of single signs", """
                text 2 14 28 29 30 39 -> 0
                all element 0 0 -> 150101 150102 10101 20101 30101 120101
                text 24 25 26 27 0 -> 1
                all element 0 1 -> 201 301 401 501 130101
                text 11 23 6 -> 2
                all element 2 2 -> 240101 240102 190101
                compose 40 5 25 -> 1
                text 40 -> 3
                all element 1 3 -> 180101 301
                # the levels 1 to 4 make the weights
                rule 1 2 : 0 / 0 1 -> 1
                rule 1 3 : 0 1 / 0 2 -> 2
                rule 1 0 : 0 2 / 0 3 -> 3
                rule 1 3 : 0 3 / 0 4 -> 4
                rule 1 2 : 0 4 / 0 5 -> 5
                rule 1 1 : 0 5 / 0 6 -> 6
                text 0 12 0 1 0 2 0 3 0 4 -> 4
                all element 1 4 -> 130101 130102 130201 130202 130202 130203
                text 0 5 0 6 1 0 2 -> 5
                all element 1 5 -> 130301 140101 150101 130202
                all element 0 5 -> 130101 180101 130101 190101 140101 130101 150101
                element 3 0 0 -> IOOBE
                element -1 0 0 -> IOOBE
                element 0 6 0 -> IOOBE
                element 0 -1 0 -> IOOBE
                element 0 0 -1 -> IOOBE
                element 0 0 -2147483648 -> IOOBE
                element 0 0 2147483647 -> -1
                """);
        Script.run("25 the weights of the first items", """
                rule 0 5 : 28 / 3 -> 1
                rule 0 6 : 29 / 4 -> 2
                text 3 28 4 29 15 16 -> 0
                all element 0 0 -> 10101 10201 20101 20102 160101 170101
                """);
    }

    private static void elementsOfNumbers() {
        Script.run("25 numbers by value", """
                text 30 30 35 30 0 30 30 -> 0
                text 31 24 32 -> 1
                text 39 38 37 36 35 34 33 32 31 30 -> 2
                text 0 30 28 30 31 29 34 -> 3
                text 30 30 30 30 30 30 30 30 30 30 -> 4
                all element 0 0 -> 30101 30101 80101 30101 130101 30101 30101
                option 0 2 true -> false
                all element 0 0 -> 30101 20101 60101 10101 130101 30101 10101 10101
                # a mark ends the number
                all element 0 1 -> 30101 10101 20101 201 30101 10101 30101
                all element 1 1 -> 40101 201 50101
                all element 0 2 -> 30101 100101 100101 90101 80101 70101 60101 50101 40101 30101 20101 10101
                all element 0 3 -> 130101 30101 10101 10101 10101 30101 10101 20101 20101 30101 10101 50101
                all element 0 4 -> 30101 10101 10101
                # the first weight of the item 30 alone
                rule 0 5 : 30 / 5 -> 1
                all element 0 4 -> 30101 10101 10101
                rule 0 4 : 30 / 4 -> 2
                all element 0 4 -> 40101 10101 10101
                option 0 2 false -> true
                text 30 -> 5
                all element 0 5 -> 40201
                """);
    }

    private static void elementsOfItems() {
        Script.run("25 the longest row of signs", """
                text 0 1 2 -> 0
                text 0 24 1 -> 1
                text 0 1 24 -> 2
                text 0 1 2 0 1 0 1 3 -> 3
                rule 0 1 : 1 / 0 1 -> 1
                all element 0 0 -> 150101 160101
                all element 0 1 -> 130101 201 140101
                all element 0 2 -> 150101 201
                rule 0 1 : 1 / 0 1 2 -> 2
                all element 0 0 -> 150101
                all element 0 2 -> 160101 201
                all element 0 3 -> 150101 160101 160101 180101
                # three signs, of which two are no item
                rule 1 1 : 1 / 0 1 2 -> 1
                all element 1 0 -> 150101
                all element 1 3 -> 150101 130101 140101 130101 140101 170101
                # a capital is another sign
                text 12 1 0 13 -> 4
                all element 0 4 -> 130102 140101 130101 140102
                # the row that begins first is taken
                rule 2 1 : 5 / 0 1 -> 1
                rule 2 1 : 5 / 1 2 3 -> 2
                text 0 1 2 3 1 2 3 -> 5
                all element 2 5 -> 200101 150101 160101 190101
                # an item of the same sign twice
                rule 2 0 : 9 / 0 0 -> 3
                text 0 0 0 -> 6
                all element 2 6 -> 240101 130101
                """);
    }

    private static void elementsWithMarks() {
        Script.run("25 marks that are taken, too", """
                rule 0 2 : 0 / 0 26 -> 1
                text 0 26 -> 0
                text 0 24 26 25 -> 1
                text 0 24 26 26 -> 2
                text 26 0 1 26 -> 3
                all element 0 0 -> 130201
                # 24 and 25 are left, and have a lesser class
                all element 0 1 -> 130201 201 301
                # the second 26 would be taken if there was such an item
                all element 0 2 -> 130201 201 401
                all element 0 3 -> 401 130101 140101 401
                rule 0 2 : 0 26 / 0 26 26 -> 2
                all element 0 2 -> 130301 201
                # 25 is blocked by 24 that was left
                rule 1 2 : 0 / 0 25 -> 1
                text 0 24 25 -> 4
                text 0 25 24 -> 5
                text 0 25 25 -> 6
                all element 1 4 -> 130101 201 301
                # taken with the row, so that it is not left; and then 24 is
                all element 1 5 -> 130201 201
                all element 1 6 -> 130201 301
                rule 1 2 : 0 25 / 0 25 24 -> 2
                all element 1 5 -> 130301
                rule 1 2 : 0 25 24 / 0 27 -> 3
                text 0 26 27 1 -> 7
                text 0 26 1 27 -> 8
                # a mark that was left does not block one of a greater class
                all element 1 7 -> 130401 401 140101
                # only up to the next sign that is no mark
                all element 1 8 -> 130101 401 140101 501
                # of what was taken and it, in this order
                rule 2 2 : 0 / 0 26 -> 1
                rule 2 2 : 0 26 / 0 26 27 -> 2
                text 0 24 26 27 -> 9
                all element 2 9 -> 130301 201
                text 0 24 27 -> 10
                all element 2 10 -> 130101 201 501
                """);
        Script.run("25 marks behind items of several signs, and none behind the others", """
                rule 0 1 : 5 / 0 1 -> 1
                rule 0 1 : 0 1 / 0 1 27 -> 2
                text 0 1 24 27 -> 0
                all element 0 0 -> 200101 201
                text 0 24 1 27 -> 1
                all element 0 1 -> 130101 201 140101 501
                text 28 24 29 25 30 26 -> 2
                all element 0 2 -> 10101 201 20101 301 30101 401
                # an item with a mark within
                rule 1 1 : 5 / 0 24 1 -> 1
                all element 1 1 -> 190101 501
                text 0 24 24 1 -> 3
                all element 1 3 -> 130101 201 201 140101
                """);
    }

    private static void elementsAsSeveral() {
        Script.run("25 as several", """
                text 3 15 -> 0
                text 4 24 26 -> 1
                text 4 -> 2
                text 3 24 -> 3
                rule 0 7 : 0 2 / 3 -> 1
                all element 0 0 -> 130101 150101 160101
                all element 0 3 -> 130101 150101 201
                rule 0 7 : 12 1 0 / 4 26 -> 2
                all element 0 1 -> 130102 140101 130101 201
                all element 0 2 -> 170101
                # the longest row can sort as several
                rule 0 7 : 8 7 / 3 24 -> 3
                all element 0 3 -> 210101 200101
                rule 0 7 : 8 8 / 3 15 -> 4
                all element 0 0 -> 210101 210101
                # each of them is an item of one sign, even if both are one together
                rule 0 1 : 5 / 8 8 -> 5
                all element 0 0 -> 220101 220101
                text 8 8 -> 4
                all element 0 4 -> 190101
                """);
    }

    private static void keys() {
        Script.run("26 keys", """
                text 0 12 1 -> 0
                all keyAt 0 1 0 -> 14 14 15 1
                all keyAt 0 2 0 -> 14 14 15 1 4 1
                all keyAt 0 3 0 -> 14 14 15 1 4 1 63 66 2 1
                all keyAt 0 4 0 -> 14 14 15 1 4 1 63 66 2 1 1
                text 0 24 0 0 -> 1
                all keyAt 0 3 1 -> 14 14 14 1 63 66 3 1 5 1
                option 0 1 true -> false
                all keyAt 0 3 1 -> 14 14 14 1 62 66 2 1 5 1
                option 0 1 false -> true
                text 0 24 -> 2
                all keyAt 0 3 2 -> 14 1 63 66 1 3 1
                text 24 27 -> 3
                all keyAt 0 4 3 -> 1 66 69 1 3 1 1
                text 28 30 23 -> 4
                all keyAt 0 4 4 -> 2 4 25 1 4 1 62 66 1 1
                option 0 2 true -> false
                all keyAt 0 2 4 -> 2 4 2 2 25 1 6 1
                option 1 1 true -> false
                # the third level does not go backward
                all keyAt 1 3 0 -> 14 14 15 1 4 1 63 66 2 1
                keyAt 0 0 0 0 -> IAE
                keyAt 0 5 0 0 -> IAE
                keyAt 0 -2147483648 0 0 -> IAE
                keyAt 3 1 0 0 -> IOOBE
                keyAt -1 1 0 0 -> IOOBE
                keyAt 0 1 5 0 -> IOOBE
                keyAt 0 1 -1 0 -> IOOBE
                keyAt 0 1 0 -1 -> IOOBE
                keyAt 0 1 0 2147483647 -> -1
                # the one named first
                keyAt 3 0 0 0 -> IOOBE
                keyAt 0 0 5 0 -> IOOBE
                keyAt 0 5 0 -1 -> IOOBE
                """);
    }

    private static void longKeys() {
        Script.run("26 runs of more than 30 weights 1", """
                rule 0 7 : 1 2 3 / 0 -> 1
                compose 40 0 24 -> 1
                # 30 of them
                text 0 0 0 0 0 0 0 0 0 0 -> 0
                keyAt 0 2 0 30 -> 1
                keyAt 0 2 0 31 -> 31
                keyAt 0 2 0 32 -> 1
                keyAt 0 2 0 33 -> -1
                # 31 on the third level, and 30 on the second one ahead of another weight
                text 0 0 0 0 0 0 0 0 0 40 -> 1
                keyAt 0 3 1 30 -> 1
                keyAt 0 3 1 31 -> 34
                keyAt 0 3 1 32 -> 66
                keyAt 0 3 1 33 -> 1
                keyAt 0 3 1 34 -> 33
                keyAt 0 3 1 35 -> 2
                keyAt 0 3 1 36 -> 1
                keyAt 0 3 1 37 -> -1
                # 31 ahead of another weight, and 30 of them
                text 40 40 40 40 0 0 0 0 0 13 -> 2
                keyAt 0 3 2 28 -> 1
                keyAt 0 3 2 29 -> 61
                keyAt 0 3 2 30 -> 66
                keyAt 0 3 2 31 -> 61
                keyAt 0 3 2 35 -> 61
                keyAt 0 3 2 36 -> 66
                keyAt 0 3 2 37 -> 17
                keyAt 0 3 2 38 -> 1
                keyAt 0 3 2 39 -> 33
                keyAt 0 3 2 40 -> 63
                keyAt 0 3 2 41 -> 66
                keyAt 0 3 2 42 -> 1
                keyAt 0 3 2 43 -> -1
                text 40 40 40 0 0 0 0 0 0 13 -> 3
                keyAt 0 3 3 37 -> 34
                keyAt 0 3 3 38 -> 66
                keyAt 0 3 3 39 -> 1
                orders 0 3 2 3 -> 1
                orders 0 3 0 1 -> -1
                # 50 elements
                compose 41 40 25 -> 2
                text 41 41 41 41 41 41 41 41 41 41 -> 4
                keyAt 0 3 4 30 -> 1
                keyAt 0 3 4 31 -> 61
                keyAt 0 3 4 33 -> 67
                keyAt 0 3 4 60 -> 67
                keyAt 0 3 4 61 -> 1
                keyAt 0 3 4 62 -> 33
                keyAt 0 3 4 63 -> 21
                keyAt 0 3 4 64 -> 1
                keyAt 0 3 4 65 -> -1
                element 0 4 49 -> 301
                element 0 4 50 -> -1
                # 51 on the fourth one
                option 0 0 true -> false
                keyAt 0 4 4 65 -> 101
                keyAt 0 4 4 114 -> 101
                keyAt 0 4 4 115 -> 1
                keyAt 0 4 4 116 -> -1
                """);
        Script.run("26 the longest forms of entries", """
                compose 40 0 24 -> 1
                compose 41 40 25 -> 2
                rule 0 7 : 1 2 3 / 0 -> 1
                text 41 41 41 41 41 41 41 41 41 41 -> 0
                text 41 41 41 41 41 41 41 41 41 12 -> 1
                text 41 41 41 41 41 41 41 41 41 40 -> 2
                entry -1 0 1 -> 0
                entry -1 1 1 -> 1
                entry -1 2 1 -> 2
                # 12 begins the letters: 0 is none in the list
                all entryAt 0 -> 1 2 0
                form 0 2 3 -> 0
                form 1 2 27 -> 0
                form 2 2 3 -> 0
                all entryAt 0 -> 1 2 0
                option 0 0 true -> false
                all entryAt 0 -> 1 2 0
                form 1 0 0 -> 2
                form 2 0 0 -> 2
                form 0 0 0 -> 2
                all entryAt 0 -> 1 2 0
                """);
    }

    private static void shiftedKeys() {
        Script.run("26 shifted", """
                text 0 28 24 25 1 -> 0
                text 0 24 29 -> 1
                text 29 24 30 31 -> 2
                text 24 28 -> 3
                text 28 -> 4
                all keyAt 0 4 0 -> 14 2 15 1 62 66 67 2 1 6 1 1
                option 0 0 true -> false
                all keyAt 0 4 0 -> 14 15 1 3 1 3 1 101 2 101 1
                all keyAt 0 3 0 -> 14 15 1 3 1 3 1
                all keyAt 0 4 1 -> 14 1 63 66 1 3 1 101 101 3 1
                all keyAt 0 4 2 -> 4 5 1 3 1 3 1 3 101 101 1
                all keyAt 0 4 3 -> 1 66 1 2 1 101 2 1
                all keyAt 0 4 4 -> 1 1 1 2 1
                option 0 2 true -> false
                # each element of a number has one on the fourth level
                all keyAt 0 4 2 -> 4 2 3 1 4 1 4 1 3 101 101 101 1
                # elements are told all the same
                all element 0 0 -> 130101 10101 201 301 140101
                # the first weights of 28 and 29, as they are
                rule 0 4 : 28 / 5 -> 1
                all keyAt 0 4 4 -> 1 1 1 3 1
                rule 0 5 : 29 / 4 -> 2
                text 29 28 -> 5
                all keyAt 0 4 5 -> 1 1 1 4 3 1
                """);
    }

    private static void compare() {
        Script.run("27 and 28: on the levels", """
                text 0 -> 0
                text 12 -> 1
                text 0 24 -> 2
                text 0 0 -> 3
                text 1 -> 4
                orders 0 1 0 1 -> 0
                orders 0 2 0 1 -> 0
                orders 0 3 0 1 -> -1
                orders 0 4 0 1 -> -1
                orders 0 1 0 2 -> 0
                orders 0 2 0 2 -> -1
                # the second level decides ahead of the third
                orders 0 3 1 2 -> -1
                # a row that ends goes first
                orders 0 1 0 3 -> -1
                orders 0 4 1 3 -> -1
                orders 0 1 3 4 -> -1
                orders 0 4 2 4 -> -1
                orders 0 4 2 2 -> 0
                # the tailoring that is told
                rule 1 4 : 0 / 1 -> 1
                orders 1 1 0 4 -> 1
                orders 0 1 0 4 -> -1
                orders 2 1 0 4 -> -1
                rule 1 0 : 0 / 1 -> 2
                orders 1 4 0 4 -> 0
                """);
        Script.run("27 and 28: options", """
                text 0 28 1 -> 0
                text 0 1 -> 1
                text 0 29 1 -> 2
                text 0 28 24 1 -> 3
                orders 0 1 0 1 -> -1
                orders 0 1 0 2 -> -1
                orders 0 2 0 3 -> -1
                option 0 0 true -> false
                orders 0 3 0 1 -> 0
                orders 0 4 0 1 -> -1
                orders 0 3 0 2 -> 0
                orders 0 4 0 2 -> -1
                orders 0 4 0 3 -> 0
                text 0 24 0 -> 4
                text 0 0 24 -> 5
                orders 0 2 4 5 -> 1
                orders 0 1 4 5 -> 0
                option 0 1 true -> false
                orders 0 2 4 5 -> -1
                text 39 -> 6
                text 31 30 -> 7
                text 30 31 30 -> 8
                text 30 39 -> 9
                orders 1 1 6 7 -> 1
                option 1 2 true -> false
                orders 1 1 6 7 -> -1
                orders 1 4 7 8 -> 0
                orders 1 4 6 9 -> 0
                orders 0 1 7 8 -> 1
                """);
    }

    private static void compareThrows() {
        Script.run("27 and 28: what is thrown", """
                compare 0 1 0 0 -> IOOBE
                compareByLevels 0 1 0 0 -> IOOBE
                text 0 -> 0
                text 1 -> 1
                compare 0 1 2 0 -> IOOBE
                compare 0 1 0 2 -> IOOBE
                compare 0 1 -1 0 -> IOOBE
                compare 0 1 0 -1 -> IOOBE
                compare 3 1 0 0 -> IOOBE
                compare -1 1 0 0 -> IOOBE
                compare 0 0 0 1 -> IAE
                compare 0 5 0 1 -> IAE
                compare 0 0 0 2 -> IOOBE
                compare 3 5 0 0 -> IOOBE
                compareByLevels 0 1 2 0 -> IOOBE
                compareByLevels 0 1 0 2 -> IOOBE
                compareByLevels 0 1 -1 0 -> IOOBE
                compareByLevels 0 1 0 -1 -> IOOBE
                compareByLevels 3 1 0 0 -> IOOBE
                compareByLevels -1 1 0 0 -> IOOBE
                compareByLevels 0 0 0 1 -> IAE
                compareByLevels 0 5 0 1 -> IAE
                compareByLevels 0 0 0 2 -> IOOBE
                compareByLevels 3 5 0 0 -> IOOBE
                """);
    }

    private static void find() {
        Script.run("29 find", """
                text 0 1 0 1 -> 0
                text 0 1 -> 1
                find 0 4 0 1 0 -> 2
                find 0 4 0 1 1 -> 204
                find 0 4 0 1 2 -> 204
                find 0 4 0 1 3 -> -1
                find 0 4 0 1 2147483647 -> -1
                find 0 4 1 0 0 -> -1
                find 0 4 0 0 0 -> 4
                text 1 -> 2
                find 0 4 0 2 0 -> 102
                find 0 4 0 2 2 -> 304
                find 0 4 0 2 3 -> 304
                find 0 4 0 2 4 -> -1
                # on a strength
                text 12 24 1 -> 3
                text 0 -> 4
                find 0 1 3 4 0 -> 2
                find 0 2 3 4 0 -> -1
                text 0 24 -> 5
                find 0 2 3 5 0 -> 2
                find 0 3 3 5 0 -> -1
                # in a tailoring
                rule 1 0 : 0 / 3 -> 1
                text 3 3 1 -> 6
                find 1 4 6 1 0 -> 103
                find 0 1 6 1 0 -> -1
                rule 2 7 : 0 1 / 5 -> 1
                text 2 5 -> 7
                find 2 4 7 1 0 -> 102
                find 0 4 7 1 0 -> -1
                text 5 -> 8
                find 2 4 0 8 0 -> 2
                # the least end, of a blank too
                option 0 0 true -> false
                text 28 0 28 29 -> 9
                find 0 3 9 4 0 -> 2
                find 0 3 9 4 1 -> 102
                find 0 4 9 4 0 -> 102
                find 0 4 9 4 2 -> -1
                # nothing but what is not counted: at least one sign
                text 28 -> 10
                find 0 3 4 10 0 -> -1
                find 0 3 9 10 0 -> 1
                find 0 3 9 10 1 -> 203
                find 0 4 9 10 1 -> 203
                find 0 4 9 10 3 -> -1
                find 0 3 9 10 3 -> 304
                """);
    }

    private static void findEdges() {
        Script.run("29 find: where letters end", """
                text 0 1 -> 0
                text 0 -> 1
                text 1 -> 2
                find 0 1 0 1 0 -> 1
                find 0 1 0 2 0 -> 102
                rule 0 1 : 5 / 0 1 -> 1
                # both are one element
                find 0 1 0 1 0 -> -1
                find 0 1 0 2 0 -> -1
                find 0 1 0 0 0 -> 2
                # a mark right behind where it begins, and where it ends
                text 24 0 25 1 -> 3
                find 0 1 3 1 0 -> 103
                find 1 1 3 1 0 -> 103
                find 1 2 3 1 0 -> -1
                find 1 1 3 1 2 -> -1
                find 1 1 3 2 0 -> 304
                text 25 -> 4
                find 1 2 3 4 0 -> -1
                text 24 -> 5
                # 0 is a place with a mark right behind
                find 1 2 3 5 0 -> -1
                # of a number
                text 31 32 28 30 31 -> 6
                text 31 -> 7
                text 32 -> 8
                find 0 1 6 7 0 -> 1
                find 0 1 6 8 0 -> 102
                option 0 2 true -> false
                find 0 1 6 7 0 -> 305
                find 0 1 6 8 0 -> -1
                find 0 1 6 7 4 -> -1
                # what is taken with a mark in between
                rule 0 1 : 5 / 2 26 -> 2
                text 2 24 26 2 -> 9
                text 2 -> 10
                find 0 1 9 10 0 -> 304
                text 2 26 -> 11
                find 0 1 9 11 0 -> 3
                find 0 2 9 11 0 -> -1
                text 2 26 24 -> 12
                find 0 4 9 12 0 -> 3
                # a part is for itself: three are one in the whole text
                rule 2 1 : 5 / 3 4 -> 1
                rule 2 1 : 5 / 3 4 5 -> 2
                text 3 4 -> 13
                text 3 4 5 3 4 -> 14
                find 2 4 14 13 0 -> 305
                """);
    }

    private static void findThrows() {
        Script.run("29 find: what is thrown", """
                find 0 1 0 0 0 -> IOOBE
                text 0 -> 0
                find 0 1 0 0 0 -> 1
                find 3 1 0 0 0 -> IOOBE
                find -1 1 0 0 0 -> IOOBE
                find 0 1 1 0 0 -> IOOBE
                find 0 1 -1 0 0 -> IOOBE
                find 0 1 0 1 0 -> IOOBE
                find 0 1 0 -1 0 -> IOOBE
                find 0 1 0 0 -1 -> IOOBE
                find 0 1 0 0 -2147483648 -> IOOBE
                find 0 0 0 0 0 -> IAE
                find 0 5 0 0 0 -> IAE
                # the one named first
                find 0 0 0 0 -1 -> IOOBE
                find 0 5 1 0 0 -> IOOBE
                find 0 5 0 1 0 -> IOOBE
                find 3 0 0 0 0 -> IOOBE
                """);
    }
}
