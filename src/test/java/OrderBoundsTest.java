/** The promises 25 to 29 at their bounds: ahead of each test a remark says the sentence that it is about. */
public final class OrderBoundsTest {
    private static final String MOST_SIGNS = "41 41 41 41 41 41 41 41 41 41";

    private OrderBoundsTest() {
    }

    public static void main(String[] args) {
        element();
        numbers();
        marksAndItems();
        takenMarks();
        keyThrows();
        keyBytes();
        runs();
        emptyRows();
        shifted();
        compareThrows("compare", 27);
        compareThrows("compareByLevels", 28);
        comparePlaces();
        compareRows();
        findThrows();
        findPlaces();
        findEdges();
        Script.end();
    }

    private static void element() {
        // "Throws `IndexOutOfBoundsException` if there is no such tailoring or text, or index is below 0"
        // "`tailoring`: 0 to 2"
        // "`text`: its number"
        Script.run("Promise 25: no such tailoring, no such text, and both", """
                element 0 0 0 -> IOOBE
                text 0 -> 0
                element 0 0 0 -> 130101
                element 2 0 0 -> 130101
                element -1 0 0 -> IOOBE
                element 3 0 0 -> IOOBE
                element least 0 0 -> IOOBE
                element greatest 0 0 -> IOOBE
                element 0 -1 0 -> IOOBE
                element 0 1 0 -> IOOBE
                element 0 30 0 -> IOOBE
                element 0 least 0 -> IOOBE
                element 0 greatest 0 -> IOOBE
                element 3 1 -1 -> IOOBE
                """);
        // "Throws `IndexOutOfBoundsException` if there is no such tailoring or text, or index is below 0"
        // "`index`: from 0"
        Script.run("Promise 25: an index below 0", """
                text 0 -> 0
                element 0 0 -1 -> IOOBE
                element 0 0 least -> IOOBE
                element 0 0 0 -> 130101
                """);
        // "Returns 10000 times its first weight, 100 times the second one, and the third one, together; NONE if it has not so many."
        // "Returns an element of a text."
        Script.run("Promise 25: the last element, the one behind it, and the greatest index", """
                text 23 24 -> 0
                element 0 0 0 -> 240102
                element 0 0 1 -> 201
                element 0 0 2 -> -1
                element 0 0 3 -> -1
                element 0 0 greatest -> -1
                """);
        // "Returns 10000 times its first weight, 100 times the second one, and the third one, together; NONE if it has not so many."
        Script.run("Promise 25: the most elements, 50 of 10 signs", """
                compose 40 0 24 -> 1
                compose 41 40 27 -> 2
                rule 0 7 : 1 2 3 / 0 -> 1
                text MOST -> 0
                element 0 0 0 -> 140101
                element 0 0 4 -> 501
                element 0 0 45 -> 140101
                element 0 0 47 -> 160101
                element 0 0 48 -> 201
                element 0 0 49 -> 501
                element 0 0 50 -> -1
                element 1 0 29 -> 501
                element 1 0 30 -> -1
                """.replace("MOST", MOST_SIGNS));
    }

    private static void numbers() {
        // "all digits up to the next sign that is none make a number"
        Script.run("Promise 25: a number of 1 digit, and one of 10", """
                option 0 2 true -> false
                text 39 -> 0
                text 39 39 39 39 39 39 39 39 39 39 -> 1
                all element 0 0 -> 30101 10101 100101
                all element 0 1 -> 30101 100101 100101 100101 100101 100101 100101 100101 100101 100101 100101 100101
                """);
        // "Zeros at its beginning are left out, but one stays if all are zeros."
        Script.run("Promise 25: one zero, ten zeros, nine zeros ahead, nine zeros behind, and none", """
                option 0 2 true -> false
                text 30 -> 0
                text 30 30 30 30 30 30 30 30 30 30 -> 1
                text 30 30 30 30 30 30 30 30 30 31 -> 2
                text 31 30 30 30 30 30 30 30 30 30 -> 3
                text 30 31 30 -> 4
                all element 0 0 -> 30101 10101 10101
                all element 0 1 -> 30101 10101 10101
                all element 0 2 -> 30101 10101 20101
                all element 0 3 -> 30101 100101 20101 10101 10101 10101 10101 10101 10101 10101 10101 10101
                all element 0 4 -> 30101 20101 20101 10101
                """);
        // "all digits up to the next sign that is none make a number"
        Script.run("Promise 25: the signs next to the digits, and one of each kind, end a number", """
                option 0 2 true -> false
                text 31 29 31 -> 0
                text 31 28 31 -> 1
                text 31 27 31 -> 2
                text 31 0 31 -> 3
                text 31 23 31 -> 4
                compose 40 0 24 -> 1
                text 31 40 31 -> 5
                text 30 39 -> 6
                all element 0 0 -> 30101 10101 20101 20101 30101 10101 20101
                all element 0 1 -> 30101 10101 20101 10101 30101 10101 20101
                all element 0 2 -> 30101 10101 20101 501 30101 10101 20101
                all element 0 3 -> 30101 10101 20101 130101 30101 10101 20101
                all element 0 4 -> 30101 10101 20101 240102 30101 10101 20101
                all element 0 5 -> 30101 10101 20101 130101 201 30101 10101 20101
                all element 0 6 -> 30101 10101 100101
                """);
        // "Its elements have, one behind the other, the first weights of the item 30, how many digits stay, and for each of these its value and 1; their second and third weights are 1."
        Script.run("Promise 25: the item 30 with other weights", """
                option 0 2 true -> false
                text 30 -> 0
                # 30 has the level 3 then, and 5 its first weight
                rule 0 6 : 30 / 5 -> 1
                all element 0 0 -> 30101 10101 10101
                rule 0 4 : 28 / 4 -> 2
                all element 0 0 -> 40101 10101 10101
                option 0 2 false -> true
                all element 0 0 -> 40102
                """);
        // "If the tailoring has numbers by value, and there is a digit"
        Script.run("Promise 25: not by value, the digits are items", """
                text 30 30 39 -> 0
                all element 0 0 -> 30101 30101 120101
                option 1 2 true -> false
                all element 0 0 -> 30101 30101 120101
                all element 1 0 -> 30101 10101 100101
                """);
    }

    private static void marksAndItems() {
        // "If there is a mark: one element with the weights 0, 2 and how many marks are below it (24 the first), together, and 1."
        // "If there is a mark"
        Script.run("Promise 25: the first mark and the last, alone, and behind what takes none", """
                text 24 -> 0
                text 27 -> 1
                text 28 24 30 27 -> 2
                option 1 2 true -> false
                all element 0 0 -> 201
                all element 0 1 -> 501
                all element 0 2 -> 10101 201 30101 501
                all element 1 2 -> 10101 201 30101 10101 10101 501
                """);
        // "Otherwise the longest row of signs from there on that is an item, or sorts as several, is taken"
        Script.run("Promise 25: rows of 1, 2 and 3 signs, and what is left at the end of the text", """
                rule 0 1 : 11 / 0 1 -> 1
                rule 0 1 : 11 / 0 1 2 -> 2
                text 0 -> 0
                text 0 1 -> 1
                text 0 1 2 -> 2
                text 0 1 2 0 1 0 -> 3
                text 0 1 3 -> 4
                all element 0 0 -> 130101
                # 0 1 2 was told later, and is just behind 23; 0 1 is behind that
                all element 0 1 -> 260101
                all element 0 2 -> 250101
                all element 0 3 -> 250101 260101 130101
                all element 0 4 -> 260101 160101
                """);
        // "Otherwise the longest row of signs from there on that is an item, or sorts as several, is taken"
        Script.run("Promise 25: 3 signs that are an item, though the first 2 are none; and the same as several", """
                rule 0 1 : 11 / 0 1 2 -> 1
                rule 1 7 : 4 5 / 0 1 2 -> 1
                rule 1 7 : 4 5 / 3 3 -> 2
                text 0 1 2 -> 0
                text 0 1 -> 1
                text 3 3 3 -> 2
                all element 0 0 -> 250101
                all element 0 1 -> 130101 140101
                all element 1 0 -> 170101 180101
                all element 1 1 -> 130101 140101
                all element 1 2 -> 170101 180101 160101
                """);
        // "A row of signs, taken apart, has elements in a tailoring, which are found from left to right."
        Script.run("Promise 25: a shorter row that begins first, ahead of a longer one", """
                rule 0 1 : 11 / 0 1 -> 1
                rule 0 1 : 11 / 1 2 3 -> 2
                text 0 1 2 3 -> 0
                text 1 2 3 0 1 -> 1
                # 1 2 3 is just behind 23, and 0 1 behind that
                all element 0 0 -> 260101 150101 160101
                all element 0 1 -> 250101 260101
                """);
        // "It has one element with the weights of the item, or those of all signs as which it sorts."
        Script.run("Promise 25: as 2 signs, and as 3, each taken as an item of one sign", """
                rule 0 7 : 23 12 / 5 -> 1
                rule 0 7 : 1 1 1 / 4 -> 2
                rule 0 1 : 28 / 1 1 -> 3
                text 5 4 -> 0
                # 1 1 has the first weight 2, and all behind it 1 more
                all element 0 0 -> 250102 140102 150101 150101 150101
                """);
    }

    private static void takenMarks() {
        // "one is taken, too, if it is not blocked by one that was left there, and what was taken and it are, in this order, an item, or sort as several"
        Script.run("Promise 25: one that was left with a lesser class, with the same, and none", """
                rule 0 2 : 0 / 0 26 -> 1
                text 0 26 -> 0
                text 0 24 26 -> 1
                text 0 24 25 26 -> 2
                all element 0 0 -> 130201
                all element 0 1 -> 130201 201
                all element 0 2 -> 130201 201 301
                rule 1 2 : 0 / 0 24 -> 1
                text 0 24 25 -> 3
                text 0 25 24 -> 4
                all element 1 3 -> 130201 301
                # 25 has the same class, and was left
                all element 1 4 -> 130101 301 201
                """);
        // "then the marks behind it, up to the next sign that is none, are gone through in order"
        Script.run("Promise 25: the marks at the end of the text, and with a sign between", """
                rule 0 2 : 0 / 0 27 -> 1
                text 0 24 26 27 -> 0
                text 0 24 1 27 -> 1
                text 0 24 28 27 -> 2
                text 0 30 27 -> 3
                text 27 0 -> 4
                all element 0 0 -> 130201 201 401
                all element 0 1 -> 130101 201 140101 501
                all element 0 2 -> 130101 201 10101 501
                all element 0 3 -> 130101 30101 501
                all element 0 4 -> 501 130101
                """);
        // "what was taken and it are, in this order, an item, or sort as several"
        Script.run("Promise 25: no more than 3 signs are an item, so that a third mark is left", """
                rule 0 2 : 0 / 0 24 25 -> 1
                rule 0 2 : 0 / 0 24 -> 2
                text 0 24 25 26 -> 0
                text 0 24 25 25 -> 1
                text 0 24 26 25 -> 2
                # 0 24 was told later, and is just behind 0
                all element 0 0 -> 130301 401
                all element 0 1 -> 130301 301
                # taken apart it is 0 24 25 26
                all element 0 2 -> 130301 401
                """);
        // "what was taken and it are, in this order, an item, or sort as several"
        Script.run("Promise 25: what was taken sorts as several with the mark", """
                rule 0 7 : 1 2 / 0 26 -> 1
                rule 0 7 : 3 4 5 / 0 26 27 -> 2
                text 0 24 26 -> 0
                text 0 24 26 27 -> 1
                text 0 24 27 -> 2
                all element 0 0 -> 140101 150101 201
                all element 0 1 -> 160101 170101 180101 201
                all element 0 2 -> 130101 201 501
                """);
        // "Then it goes on with the first sign that was not taken, and comes over those that were taken."
        Script.run("Promise 25: a mark that was taken at the end, and one in between", """
                rule 0 2 : 0 / 0 26 -> 1
                text 0 24 26 -> 0
                text 0 24 26 27 0 -> 1
                all element 0 0 -> 130201 201
                all element 0 1 -> 130201 201 501 130101
                """);
    }

    private static void keyThrows() {
        // "Throws `IndexOutOfBoundsException` if there is no such tailoring or text, or index is below 0"
        // "`tailoring`: 0 to 2"
        // "`text`: its number"
        // "`index`: from 0"
        Script.run("Promise 26: no such tailoring, no such text, and an index below 0", """
                keyAt 0 1 0 0 -> IOOBE
                text 0 -> 0
                keyAt 2 1 0 0 -> 14
                keyAt -1 1 0 0 -> IOOBE
                keyAt 3 1 0 0 -> IOOBE
                keyAt least 1 0 0 -> IOOBE
                keyAt greatest 1 0 0 -> IOOBE
                keyAt 0 1 -1 0 -> IOOBE
                keyAt 0 1 1 0 -> IOOBE
                keyAt 0 1 least 0 -> IOOBE
                keyAt 0 1 greatest 0 -> IOOBE
                keyAt 0 1 0 -1 -> IOOBE
                keyAt 0 1 0 least -> IOOBE
                """);
        // "`strength`: 1 to 4"
        // "Throws `IllegalArgumentException` if strength is out of range"
        Script.run("Promise 26: strengths from 1 to 4, and none of these", """
                text 0 -> 0
                keyAt 0 0 0 0 -> IAE
                keyAt 0 1 0 0 -> 14
                keyAt 0 4 0 0 -> 14
                keyAt 0 5 0 0 -> IAE
                keyAt 0 -1 0 0 -> IAE
                keyAt 0 least 0 0 -> IAE
                keyAt 0 greatest 0 0 -> IAE
                keyAt 0 0 0 greatest -> IAE
                """);
        // "If several apply, the one that the throws clause names first is thrown."
        Script.run("Promise 26: a strength out of range, and what is named ahead of it", """
                text 0 -> 0
                keyAt 3 0 0 0 -> IOOBE
                keyAt 0 0 1 0 -> IOOBE
                keyAt 0 5 0 -1 -> IOOBE
                keyAt -1 5 -1 -1 -> IOOBE
                """);
        // "Returns the byte, 1 to 127; NONE if it has not so many."
        // "Returns a byte of the key of a text."
        // "The key of a row of signs on a strength has bytes"
        Script.run("Promise 26: the last byte of each strength, and the one behind it", """
                text 0 -> 0
                all keyAt 0 1 0 -> 14 1
                all keyAt 0 2 0 -> 14 1 2 1
                all keyAt 0 3 0 -> 14 1 2 1 2 1
                all keyAt 0 4 0 -> 14 1 2 1 2 1 1
                keyAt 0 1 0 2 -> -1
                keyAt 0 4 0 7 -> -1
                keyAt 0 4 0 greatest -> -1
                """);
    }

    private static void keyBytes() {
        // "On the levels 1 and 4 a weight w is the byte w and 1, together."
        Script.run("Promise 26: the least weights on the levels 1 and 4, and 100", """
                text 28 29 -> 0
                text 28 0 -> 1
                all keyAt 0 1 0 -> 2 3 1
                option 0 0 true -> false
                all keyAt 0 4 0 -> 1 1 1 2 3 1
                all keyAt 0 4 1 -> 14 1 2 1 2 1 2 101 1
                """);
        // "On the levels 1 and 4 a weight w is the byte w and 1, together."
        Script.run("Promise 26: the greatest first weight, with 12 items more", """
                times 12 rule 1 0 : 0 / 1
                rule 0 1 : 23 / 11 11 -> 1
                rule 0 1 : 11 11 / 12 -> 2
                rule 0 1 : 12 / 13 -> 3
                rule 0 1 : 13 / 14 -> 4
                rule 0 1 : 14 / 15 -> 5
                rule 0 1 : 15 / 16 -> 6
                rule 0 1 : 16 / 17 -> 7
                rule 0 1 : 17 / 18 -> 8
                rule 0 1 : 18 / 19 -> 9
                rule 0 1 : 19 / 20 -> 10
                rule 0 1 : 20 / 21 -> 11
                rule 0 1 : 21 / 22 -> 12
                text 11 11 -> 0
                text 22 -> 1
                text 23 -> 2
                all keyAt 0 1 0 -> 26 1
                all keyAt 0 1 1 -> 37 1
                all keyAt 0 3 2 -> 25 1 2 1 66 1
                """);
        // "On the levels 2 and 3 a weight w above 1 is the byte 64 and w, together"
        Script.run("Promise 26: the weights 1 and 2 on the levels 2 and 3", """
                text 24 -> 0
                text 27 -> 1
                text 12 -> 2
                text 0 -> 3
                all keyAt 0 3 0 -> 1 66 1 2 1
                all keyAt 0 3 1 -> 1 69 1 2 1
                all keyAt 0 3 2 -> 14 1 2 1 66 1
                all keyAt 0 3 3 -> 14 1 2 1 2 1
                """);
        // "On the levels 2 and 3 a weight w above 1 is the byte 64 and w, together"
        Script second = new Script("Promise 26: the greatest second weight");
        // "On the levels 2 and 3 a weight w above 1 is the byte 64 and w, together"
        Script third = new Script("Promise 26: the greatest third weight");
        for (int i = 0; i < 12; i++) {
            String items = (i == 0 ? "23" : "0 " + (i - 1)) + " / 0 " + i + " -> " + (i + 1);
            second.lines("rule 0 2 : " + items);
            third.lines("rule 0 3 : " + items);
        }
        second.lines("text 0 11 -> 0\nall keyAt 0 3 0 -> 25 1 77 1 2 1");
        third.lines("text 0 11 -> 0\nall keyAt 0 3 0 -> 25 1 2 1 78 1");
    }

    private static void runs() {
        // "of n weights 1 side by side, as many as can be, 30 are the byte 33, as long as there are more than 30; the others are one byte: how many they are and 1, together, if the row ends behind them, and 64 less how many otherwise"
        Script.run("Promise 26: 28, 29 and 30 weights 1, and the row ends behind them", """
                rule 0 7 : 1 2 3 / 0 -> 1
                rule 0 7 : 1 2 / 5 -> 2
                text 0 0 0 0 0 0 0 0 0 4 -> 0
                text 0 0 0 0 0 0 0 0 0 5 -> 1
                text 0 0 0 0 0 0 0 0 0 0 -> 2
                keyAt 0 2 0 29 -> 29
                keyAt 0 2 0 30 -> 1
                keyAt 0 2 0 31 -> -1
                keyAt 0 2 1 30 -> 30
                keyAt 0 2 1 31 -> 1
                keyAt 0 2 1 32 -> -1
                keyAt 0 2 2 31 -> 31
                keyAt 0 2 2 32 -> 1
                keyAt 0 2 2 33 -> -1
                # on the third level just so
                keyAt 0 3 2 33 -> 31
                keyAt 0 3 2 34 -> 1
                keyAt 0 3 2 35 -> -1
                """);
        // "30 are the byte 33, as long as there are more than 30"
        Script.run("Promise 26: 31 and 32 weights 1, and the row ends behind them", """
                compose 40 0 24 -> 1
                rule 0 7 : 1 2 3 / 0 -> 1
                text 0 0 0 0 0 0 0 0 0 40 -> 0
                text 0 0 0 0 0 0 0 0 40 40 -> 1
                # 30 and 1 on the first level, 30 and another weight on the second one
                keyAt 0 3 0 31 -> 34
                keyAt 0 3 0 32 -> 66
                keyAt 0 3 0 33 -> 1
                keyAt 0 3 0 34 -> 33
                keyAt 0 3 0 35 -> 2
                keyAt 0 3 0 36 -> 1
                keyAt 0 3 0 37 -> -1
                # 27 and 66 and 3 and 66
                keyAt 0 3 1 31 -> 37
                keyAt 0 3 1 32 -> 66
                keyAt 0 3 1 33 -> 61
                keyAt 0 3 1 34 -> 66
                keyAt 0 3 1 35 -> 1
                keyAt 0 3 1 36 -> 33
                keyAt 0 3 1 37 -> 3
                keyAt 0 3 1 38 -> 1
                keyAt 0 3 1 39 -> -1
                """);
        // "and 64 less how many otherwise"
        Script.run("Promise 26: 29, 30 and 31 weights 1 ahead of another one", """
                compose 40 0 24 -> 1
                compose 41 0 25 -> 2
                rule 0 7 : 1 2 3 / 0 -> 1
                text 0 0 0 0 0 0 0 0 40 13 -> 0
                text 0 0 0 0 0 0 0 40 40 13 -> 1
                text 0 0 0 0 0 0 40 40 40 13 -> 2
                text 0 0 0 0 0 40 40 40 40 13 -> 3
                # 28 ahead of 13 on the third level, at 28, 63 less 3, 66, 63 and the end
                keyAt 0 3 0 29 -> 37
                keyAt 0 3 0 30 -> 66
                keyAt 0 3 0 31 -> 2
                keyAt 0 3 0 32 -> 1
                keyAt 0 3 0 33 -> 36
                keyAt 0 3 0 34 -> 66
                keyAt 0 3 0 35 -> 1
                keyAt 0 3 0 36 -> -1
                keyAt 0 3 1 35 -> 35
                keyAt 0 3 1 36 -> 66
                keyAt 0 3 1 37 -> 1
                keyAt 0 3 1 38 -> -1
                keyAt 0 3 2 37 -> 34
                keyAt 0 3 2 38 -> 66
                keyAt 0 3 2 39 -> 1
                keyAt 0 3 2 40 -> -1
                keyAt 0 3 3 39 -> 33
                keyAt 0 3 3 40 -> 63
                keyAt 0 3 3 41 -> 66
                keyAt 0 3 3 42 -> 1
                keyAt 0 3 3 43 -> -1
                """);
        // "of n weights 1 side by side, as many as can be"
        Script.run("Promise 26: one weight 1, none, and backward", """
                text 0 24 0 -> 0
                text 24 0 -> 1
                text 24 24 -> 2
                all keyAt 0 2 0 -> 14 14 1 63 66 2 1
                all keyAt 0 2 1 -> 14 1 66 2 1
                all keyAt 0 2 2 -> 1 66 66 1
                option 0 1 true -> false
                # from the last one to the first one, the row ends with what was the first
                all keyAt 0 2 0 -> 14 14 1 63 66 2 1
                all keyAt 0 2 1 -> 14 1 63 66 1
                all keyAt 0 2 2 -> 1 66 66 1
                """);
        // "2 all second weights, in order, or from the last one to the first one, if the tailoring goes backward; 3 all third weights"
        Script.run("Promise 26: backward, the levels 1 and 3 are in order", """
                text 12 1 24 -> 0
                text 12 -> 1
                all keyAt 0 3 0 -> 14 15 1 62 66 1 66 3 1
                option 0 1 true -> false
                all keyAt 0 3 0 -> 14 15 1 66 3 1 66 3 1
                all keyAt 0 3 1 -> 14 1 2 1 66 1
                """);
        // "of n weights 1 side by side, as many as can be"
        Script.run("Promise 26: the longest key, of 50 elements, shifted, on the strength 4", """
                compose 40 0 24 -> 1
                compose 41 40 25 -> 2
                rule 0 7 : 1 2 3 / 0 -> 1
                option 0 0 true -> false
                text MOST -> 0
                # 30 and 1; ten times 61, 66 and 67, and 1; 33, 21 and 1; 50 times 101, and 1
                keyAt 0 4 0 29 -> 17
                keyAt 0 4 0 30 -> 1
                keyAt 0 4 0 31 -> 61
                keyAt 0 4 0 60 -> 67
                keyAt 0 4 0 61 -> 1
                keyAt 0 4 0 62 -> 33
                keyAt 0 4 0 63 -> 21
                keyAt 0 4 0 64 -> 1
                keyAt 0 4 0 65 -> 101
                keyAt 0 4 0 114 -> 101
                keyAt 0 4 0 115 -> 1
                keyAt 0 4 0 116 -> -1
                """.replace("MOST", MOST_SIGNS));
        // "30 are the byte 33, as long as there are more than 30"
        Script.run("Promise 31: 31 weights 1 on the second level, of a turned entry", """
                compose 40 0 24 -> 1
                rule 0 7 : 1 2 3 / 0 -> 1
                text 0 0 0 0 0 0 0 0 0 0 -> 0
                text 0 0 0 0 40 0 0 0 0 0 -> 1
                entry -1 1 1 -> 0
                entry -1 0 1 -> 1
                form 1 2 5 -> 0
                form 0 2 6 -> 0
                # both have 15, 1 and 15 weights on the first level; the second one has 31 weights 1, the other one 2 among them
                all entryAt 0 -> 1 0
                """);
    }

    private static void emptyRows() {
        // "for each level 1 up to the strength its weights, as told now, and then a 1"
        // "Their rows on the levels are: 1 all first weights above 0, in order"
        Script.run("Promise 26: marks alone have an empty row on the first level", """
                text 24 -> 0
                all keyAt 0 1 0 -> 1
                all keyAt 0 2 0 -> 1 66 1
                all keyAt 0 4 0 -> 1 66 1 2 1 1
                option 0 1 true -> false
                all keyAt 0 2 0 -> 1 66 1
                """);
        // "4 none, if it is not shifted"
        // "otherwise for each element but those of marks behind 28 or 29 one"
        Script.run("Promise 26: the fourth level, shifted and not, and what is shifted alone", """
                text 28 -> 0
                text 29 24 -> 1
                all keyAt 0 4 0 -> 2 1 2 1 2 1 1
                option 0 0 true -> false
                all keyAt 0 1 0 -> 1
                all keyAt 0 3 0 -> 1 1 1
                all keyAt 0 4 0 -> 1 1 1 2 1
                all keyAt 0 3 1 -> 1 1 1
                all keyAt 0 4 1 -> 1 1 1 3 1
                """);
    }

    private static void shifted() {
        // "elements of the items 28 and 29, if these are one sign, and those of marks behind them, up to the next sign that is no mark, are not counted on the levels 1 to 3"
        Script.run("Promise 26: 28 and 29, and the signs next to them, 27 and 30", """
                option 0 0 true -> false
                text 27 28 29 30 -> 0
                text 28 -> 1
                text 29 -> 2
                text 30 -> 3
                text 27 -> 4
                all keyAt 0 4 0 -> 4 1 69 2 1 3 1 101 2 3 101 1
                all keyAt 0 3 1 -> 1 1 1
                all keyAt 0 3 2 -> 1 1 1
                all keyAt 0 3 3 -> 4 1 2 1 2 1
                all keyAt 0 3 4 -> 1 69 1 2 1
                """);
        // "and those of marks behind them, up to the next sign that is no mark"
        Script.run("Promise 26: marks behind a blank, and marks behind the next sign, of each kind", """
                option 0 0 true -> false
                text 28 24 25 0 24 -> 0
                text 28 24 30 24 -> 1
                text 28 24 29 25 -> 2
                text 24 28 24 -> 3
                text 0 24 28 24 23 25 -> 4
                all keyAt 0 4 0 -> 14 1 63 66 1 3 1 2 101 101 1
                all keyAt 0 4 1 -> 4 1 63 66 1 3 1 2 101 101 1
                all keyAt 0 4 2 -> 1 1 1 2 3 1
                all keyAt 0 4 3 -> 1 66 1 2 1 101 2 1
                all keyAt 0 4 4 -> 14 25 1 63 66 63 67 1 62 66 2 1 101 101 2 101 101 1
                option 0 2 true -> false
                # a number of three elements
                all keyAt 0 4 1 -> 4 2 2 1 61 66 1 5 1 2 101 101 101 101 1
                """);
        // "the first weight of 28 or 29 for these, 100 for all others"
        Script.run("Promise 26: 28 and 29 with greater first weights, up to 14 for 29", """
                option 0 0 true -> false
                text 28 29 -> 0
                times 12 rule 0 4 : 28 / 0
                all keyAt 0 4 0 -> 1 1 1 3 4 1
                rule 1 4 : 28 / 0 0 -> 1
                rule 1 4 : 28 / 0 1 -> 2
                rule 1 4 : 28 / 0 2 -> 3
                rule 1 4 : 28 / 0 3 -> 4
                rule 1 4 : 28 / 0 4 -> 5
                rule 1 4 : 28 / 0 5 -> 6
                rule 1 4 : 28 / 0 6 -> 7
                rule 1 4 : 28 / 0 7 -> 8
                rule 1 4 : 28 / 0 8 -> 9
                rule 1 4 : 28 / 0 9 -> 10
                rule 1 4 : 28 / 0 10 -> 11
                rule 1 4 : 29 / 0 11 -> 12
                option 1 0 true -> false
                all keyAt 1 4 0 -> 1 1 1 13 15 1
                """);
    }

    /** The names of both calls and their promises; all their throws clauses are the same. */
    private static void compareThrows(String name, int promise) {
        // "Throws `IndexOutOfBoundsException` if there is no such tailoring or text"
        // "`tailoring`: 0 to 2"
        // "`one`: the number of a text"
        // "`other`: the number of a text"
        Script.run("Promise " + promise + ": no such tailoring, and no such text, of each", """
                NAME 0 1 0 0 -> IOOBE
                text 0 -> 0
                NAME 0 1 0 0 -> 0
                NAME 2 1 0 0 -> 0
                NAME -1 1 0 0 -> IOOBE
                NAME 3 1 0 0 -> IOOBE
                NAME least 1 0 0 -> IOOBE
                NAME greatest 1 0 0 -> IOOBE
                NAME 0 1 -1 0 -> IOOBE
                NAME 0 1 1 0 -> IOOBE
                NAME 0 1 least 0 -> IOOBE
                NAME 0 1 greatest 0 -> IOOBE
                NAME 0 1 0 -1 -> IOOBE
                NAME 0 1 0 1 -> IOOBE
                NAME 0 1 0 least -> IOOBE
                NAME 0 1 0 greatest -> IOOBE
                """.replace("NAME", name));
        // "Throws `IllegalArgumentException` if strength is out of range"
        // "`strength`: 1 to 4"
        Script.run("Promise " + promise + ": strengths from 1 to 4, and none of these", """
                text 0 -> 0
                text 1 -> 1
                NAME 0 0 0 1 -> IAE
                NAME 0 1 0 1 -> -1
                NAME 0 4 0 1 -> -1
                NAME 0 5 0 1 -> IAE
                NAME 0 -1 0 1 -> IAE
                NAME 0 least 0 1 -> IAE
                NAME 0 greatest 0 1 -> IAE
                # both texts are the same
                NAME 0 0 0 0 -> IAE
                NAME 0 5 0 0 -> IAE
                """.replace("NAME", name));
        // "If several apply, the one that the throws clause names first is thrown."
        Script.run("Promise " + promise + ": a strength out of range, and what is named ahead of it", """
                text 0 -> 0
                NAME 3 0 0 0 -> IOOBE
                NAME 0 5 1 0 -> IOOBE
                NAME 0 0 0 1 -> IOOBE
                NAME -1 5 -1 -1 -> IOOBE
                """.replace("NAME", name));
        // "Two rows of signs compare on a strength, 1 to 4: on the levels 1 up to the strength"
        Script.run("Promise " + promise + ": each strength counts up to its own level, and not the next", """
                option 0 0 true -> false
                text 0 -> 0
                text 1 -> 1
                text 0 24 -> 2
                text 12 -> 3
                text 0 28 -> 4
                NAME 0 1 0 1 -> -1
                NAME 0 1 0 2 -> 0
                NAME 0 2 0 2 -> -1
                NAME 0 2 0 3 -> 0
                NAME 0 3 0 3 -> -1
                NAME 0 3 0 4 -> 0
                # 100, and 100 and 1
                NAME 0 4 0 4 -> -1
                NAME 0 4 4 0 -> 1
                NAME 0 4 4 4 -> 0
                option 0 0 false -> true
                NAME 0 1 0 4 -> -1
                """.replace("NAME", name));
    }

    private static void comparePlaces() {
        // "Returns -1 if the one goes first, 1 if the other one does, 0 if neither."
        // "Compares two texts by their keys."
        Script.run("Promise 27: the first text and the last of 30, and a text with itself", """
                text 5 -> 0
                times 28 text 6
                text 4 -> 29
                orders 0 4 0 29 -> 1
                orders 0 4 0 0 -> 0
                orders 0 4 29 29 -> 0
                orders 0 4 1 28 -> 0
                compare 0 4 0 30 -> IOOBE
                compareByLevels 0 4 30 0 -> IOOBE
                """);
        // "Returns the same, by going through both rows level by level."
        // "Returns -1, 0 or 1."
        Script.run("Promise 28: the least sign and the greatest, and 10 signs of both", """
                text 28 -> 0
                text 23 -> 1
                text 28 28 28 28 28 28 28 28 28 28 -> 2
                text 23 23 23 23 23 23 23 23 23 23 -> 3
                orders 0 4 0 1 -> -1
                orders 0 4 2 3 -> -1
                orders 0 4 0 2 -> -1
                orders 0 4 1 2 -> 1
                orders 0 4 1 3 -> -1
                """);
    }

    private static void compareRows() {
        // "by the lesser weight at the first place where they differ, a row that ends there going first"
        Script.run("Promise 27: a row that ends, on each level; and an empty one", """
                text 0 -> 0
                text 0 0 -> 1
                text 24 -> 2
                text 24 24 -> 3
                text 28 -> 4
                text 28 28 -> 5
                orders 0 1 0 1 -> -1
                # an empty row on the first level
                orders 0 1 2 0 -> -1
                orders 0 1 2 3 -> 0
                # on the second one a row that ends, though the other one goes on with the least weight
                orders 0 2 2 3 -> -1
                option 0 0 true -> false
                orders 0 3 4 5 -> 0
                orders 0 4 4 5 -> -1
                orders 0 3 4 2 -> -1
                orders 0 1 4 2 -> 0
                """);
        // "the first one on which their rows differ decides"
        Script.run("Promise 27: a level ahead of the others", """
                text 13 24 -> 0
                text 2 -> 1
                text 1 24 -> 2
                text 13 -> 3
                text 1 25 -> 4
                # the greater ones on the levels 2 and 3
                orders 0 4 0 1 -> -1
                # the second level, against the third
                orders 0 4 2 3 -> 1
                orders 0 4 2 4 -> -1
                orders 0 4 0 2 -> 1
                """);
        // "2 all second weights, in order, or from the last one to the first one, if the tailoring goes backward"
        Script.run("Promise 27: backward, the last place where they differ decides on the second level", """
                text 0 24 0 -> 0
                text 0 0 25 -> 1
                text 0 25 0 24 -> 2
                text 0 24 0 25 -> 3
                orders 0 2 0 1 -> 1
                orders 0 2 2 3 -> 1
                option 0 1 true -> false
                orders 0 1 0 1 -> 0
                # 1 2 1 and 3 1 1
                orders 0 2 0 1 -> -1
                # 2 1 3 1 and 3 1 2 1
                orders 0 2 2 3 -> -1
                """);
        // "(So keys compare byte by byte as what they are of.)"
        Script.run("Promise 27: runs of weights 1 that end, and that go on with a greater weight", """
                rule 0 7 : 1 2 3 / 0 -> 1
                compose 40 0 24 -> 1
                text 0 0 0 0 0 0 0 0 0 0 -> 0
                text 0 0 0 0 0 0 0 0 0 40 -> 1
                text 0 0 0 0 0 0 0 0 40 0 -> 2
                text 40 0 0 0 0 0 0 0 0 0 -> 3
                text 0 0 0 0 0 0 0 0 0 -> 4
                # 30 and the end; 30 and 2; 27, 2 and 3; 3, 2 and 27
                orders 0 2 0 1 -> -1
                orders 0 2 1 2 -> -1
                orders 0 2 2 3 -> -1
                orders 0 2 4 0 -> -1
                # 30, 31, 31 and 31 on the third level
                orders 0 1 0 3 -> 0
                orders 0 3 1 3 -> -1
                """);
    }

    private static void findThrows() {
        // "Throws `IndexOutOfBoundsException` if there is no such tailoring or text, of either, or from is below 0"
        // "`tailoring`: 0 to 2"
        // "`text`: in which it is to be found"
        Script.run("Promise 29: no such tailoring, and no such text, of each", """
                find 0 1 0 0 0 -> IOOBE
                text 0 -> 0
                find 0 1 0 0 0 -> 1
                find 2 1 0 0 0 -> 1
                find -1 1 0 0 0 -> IOOBE
                find 3 1 0 0 0 -> IOOBE
                find least 1 0 0 0 -> IOOBE
                find greatest 1 0 0 0 -> IOOBE
                find 0 1 -1 0 0 -> IOOBE
                find 0 1 1 0 0 -> IOOBE
                find 0 1 least 0 0 -> IOOBE
                find 0 1 greatest 0 0 -> IOOBE
                find 0 1 0 -1 0 -> IOOBE
                find 0 1 0 1 0 -> IOOBE
                find 0 1 0 least 0 -> IOOBE
                find 0 1 0 greatest 0 -> IOOBE
                """);
        // "`from`: the least place at which it may begin, from 0"
        Script.run("Promise 29: places from 0 on, and below", """
                text 0 -> 0
                find 0 1 0 0 -1 -> IOOBE
                find 0 1 0 0 least -> IOOBE
                find 0 1 0 0 0 -> 1
                find 0 1 0 0 1 -> -1
                find 0 1 0 0 greatest -> -1
                """);
        // "Throws `IllegalArgumentException` if strength is out of range"
        // "`strength`: 1 to 4"
        Script.run("Promise 29: strengths from 1 to 4, and none of these", """
                text 0 -> 0
                find 0 0 0 0 0 -> IAE
                find 0 1 0 0 0 -> 1
                find 0 4 0 0 0 -> 1
                find 0 5 0 0 0 -> IAE
                find 0 -1 0 0 0 -> IAE
                find 0 least 0 0 0 -> IAE
                find 0 greatest 0 0 0 -> IAE
                # nothing would be found
                find 0 5 0 0 greatest -> IAE
                """);
        // "If several apply, the one that the throws clause names first is thrown."
        Script.run("Promise 29: a strength out of range, and what is named ahead of it", """
                text 0 -> 0
                find 3 0 0 0 0 -> IOOBE
                find 0 5 1 0 0 -> IOOBE
                find 0 0 0 1 0 -> IOOBE
                find 0 5 0 0 -1 -> IOOBE
                find -1 0 -1 -1 -1 -> IOOBE
                """);
    }

    private static void findPlaces() {
        // "Returns 100 times where it begins, and where it ends, together, with the least beginning, of several with the least end; NONE if there is none."
        Script.run("Promise 29: the first place, the last one, and behind it", """
                text 0 1 0 -> 0
                text 0 -> 1
                find 0 4 0 1 0 -> 1
                find 0 4 0 1 1 -> 203
                find 0 4 0 1 2 -> 203
                find 0 4 0 1 3 -> -1
                find 0 4 0 1 4 -> -1
                find 0 4 0 1 greatest -> -1
                """);
        // "Returns 100 times where it begins, and where it ends, together"
        Script.run("Promise 29: in the longest text, of 30 signs taken apart", """
                compose 40 0 24 -> 1
                compose 41 40 26 -> 2
                text MOST -> 0
                text 41 -> 1
                find 0 4 0 1 0 -> 3
                find 0 4 0 1 26 -> 2730
                find 0 4 0 1 27 -> 2730
                # marks stand behind 28 and 29
                find 0 4 0 1 28 -> -1
                find 0 4 0 1 29 -> -1
                find 0 4 0 1 30 -> -1
                find 0 4 0 0 0 -> 30
                find 0 4 0 0 1 -> -1
                """.replace("MOST", MOST_SIGNS));
        // "`what`: which text is to be found"
        Script.run("Promise 29: all of it, one sign less, and one more", """
                text 0 1 2 -> 0
                text 0 1 -> 1
                text 0 1 2 3 -> 2
                text 0 1 2 -> 3
                find 0 4 0 3 0 -> 3
                find 0 4 0 0 0 -> 3
                find 0 4 0 1 0 -> 2
                find 0 4 0 2 0 -> -1
                """);
        // "with the least beginning, of several with the least end"
        Script.run("Promise 29: several beginnings, and several ends", """
                option 0 0 true -> false
                text 28 28 0 28 28 -> 0
                text 0 -> 1
                find 0 3 0 1 0 -> 3
                find 0 3 0 1 1 -> 103
                find 0 3 0 1 2 -> 203
                find 0 3 0 1 3 -> -1
                # on the fourth level the blanks count
                find 0 4 0 1 0 -> 203
                find 0 4 0 1 2 -> 203
                """);
        // "a part of that, from one place to another one of its signs, taken apart, with at least one sign, which alone compares as the same"
        Script.run("Promise 29: what has an empty key is not found in no sign", """
                option 0 0 true -> false
                text 28 -> 0
                text 0 1 -> 1
                text 0 28 1 -> 2
                text 24 -> 3
                text 28 24 0 -> 4
                find 0 3 1 0 0 -> -1
                find 0 3 2 0 0 -> 102
                # a mark has an empty row on the first level alone
                find 0 1 2 3 0 -> 102
                find 0 2 2 3 0 -> -1
                find 0 1 1 3 0 -> -1
                # a mark stands behind the blank
                find 0 1 4 0 0 -> 2
                """);
        // "which alone compares as the same"
        Script.run("Promise 29: on the first strength, and on the last", """
                text 12 24 -> 0
                text 0 -> 1
                text 0 24 -> 2
                text 12 25 -> 3
                find 0 1 0 1 0 -> 2
                find 0 2 0 1 0 -> -1
                find 0 2 0 2 0 -> 2
                find 0 3 0 2 0 -> -1
                find 0 4 0 0 0 -> 2
                find 0 1 0 3 0 -> 2
                find 0 2 0 3 0 -> -1
                """);
    }

    private static void findEdges() {
        // "no mark stands right behind either place"
        Script.run("Promise 29: a mark at the beginning of the text, and at its end", """
                text 24 0 -> 0
                text 0 24 -> 1
                text 0 -> 2
                # where it begins: not even the text itself
                find 0 2 0 0 0 -> -1
                find 0 1 0 2 0 -> 102
                # where it ends: behind the last sign stands nothing
                find 0 2 1 2 0 -> -1
                find 0 1 1 2 0 -> 2
                find 0 2 1 1 0 -> 2
                """);
        // "no element of the whole text, or number, has signs that it took on both sides of either place"
        Script.run("Promise 29: an element of 2 signs, and of 3, at its beginning, within and at its end", """
                rule 0 1 : 28 / 1 2 -> 1
                text 0 1 2 3 -> 0
                text 0 -> 1
                text 1 -> 2
                text 2 -> 3
                text 3 -> 4
                text 1 2 -> 5
                text 0 1 2 -> 6
                text 1 2 3 -> 7
                find 0 4 0 1 0 -> 1
                find 0 4 0 2 0 -> -1
                find 0 4 0 3 0 -> -1
                find 0 4 0 4 0 -> 304
                find 0 4 0 5 0 -> 103
                find 0 4 0 6 0 -> 3
                find 0 4 0 7 0 -> 104
                find 0 4 0 7 2 -> -1
                rule 0 1 : 28 / 1 2 3 -> 2
                find 0 4 0 5 0 -> -1
                find 0 4 0 4 0 -> -1
                find 0 4 0 6 0 -> -1
                find 0 4 0 7 0 -> 104
                """);
        // "no element of the whole text, or number, has signs that it took on both sides of either place"
        Script.run("Promise 29: a number of several digits, and of one", """
                option 0 2 true -> false
                text 30 31 0 31 -> 0
                text 31 -> 1
                text 30 -> 2
                text 31 0 -> 3
                # the number at 0 has the value of 31, too
                find 0 4 0 1 0 -> 2
                find 0 4 0 1 1 -> 304
                find 0 4 0 2 0 -> -1
                find 0 4 0 3 0 -> 3
                find 0 4 0 3 1 -> -1
                option 0 2 false -> true
                find 0 4 0 1 0 -> 102
                find 0 4 0 2 0 -> 1
                find 0 4 0 3 0 -> 103
                """);
        // "no element of the whole text, or number, has signs that it took on both sides of either place"
        Script.run("Promise 29: what sorts as several is not torn", """
                rule 0 7 : 0 1 / 5 -> 1
                text 5 5 -> 0
                text 0 -> 1
                text 1 -> 2
                text 0 1 -> 3
                text 1 0 -> 4
                text 0 1 0 1 -> 5
                find 0 4 0 1 0 -> -1
                find 0 4 0 2 0 -> -1
                find 0 4 0 3 0 -> 1
                find 0 4 0 3 1 -> 102
                find 0 4 0 4 0 -> -1
                find 0 4 0 5 0 -> 2
                """);
        // "no element of the whole text, or number, has signs that it took on both sides of either place"
        Script.run("Promise 29: a mark that was taken behind one that was left", """
                rule 0 1 : 28 / 0 26 -> 1
                text 0 24 26 1 -> 0
                text 0 -> 1
                text 1 -> 2
                text 0 26 -> 3
                text 0 24 26 -> 4
                find 0 1 0 1 0 -> -1
                find 0 1 0 2 0 -> 304
                find 0 1 0 3 0 -> 3
                find 0 2 0 3 0 -> -1
                find 0 4 0 4 0 -> 3
                """);
    }
}
