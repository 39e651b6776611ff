/** The promises 15 to 17 and 38: words, their readings, and lines in context. */
public final class WordsTest {
    private WordsTest() {
    }

    public static void main(String[] args) {
        word();
        reading();
        read();
        belonging();
        order();
        secondNeighbours();
        tailored();
        lineThrows();
        Script.end();
    }

    private static void word() {
        Script.run("15 word", """
                word 0 -> IOOBE
                text 0 -> 0
                text 1 -> 1
                word 0 -> 0
                word 1 -> 1
                word 2 -> IOOBE
                word -1 -> IOOBE
                word 2147483647 -> IOOBE
                word 0 -> 2
                all lineAt 1 false -> 1
                times 26 word 1
                word 0 -> 29
                word 0 -> ISE
                word 1 -> ISE
                word 2 -> IOOBE
                word -1 -> IOOBE
                lineAt 0 false 2 -> 2
                lineAt 0 false 3 -> IOOBE
                lineAt 1 true 26 -> 28
                lineAt 1 true 27 -> IOOBE
                """);
    }

    private static void reading() {
        Script.run("16 reading", """
                reading 0 0 -> IOOBE
                text 0 -> 0
                text 1 -> 1
                text 2 -> 2
                text 3 -> 3
                reading 0 1 -> 1
                reading 0 1 -> ISE
                # its own text can be a lemma
                reading 0 0 -> 2
                reading 0 0 -> ISE
                reading 1 0 -> 1
                reading 0 2 -> 3
                reading 0 3 -> ISE
                reading 0 2 -> ISE
                reading 4 0 -> IOOBE
                reading 0 4 -> IOOBE
                reading -1 0 -> IOOBE
                reading 0 -1 -> IOOBE
                reading 2147483647 -2147483648 -> IOOBE
                word 0 -> 0
                all lineAt 0 false -> 0
                all lineAt 1 false -> 0
                all lineAt 2 false -> 0
                all lineAt 3 false ->
                reading 1 3 -> 2
                reading 1 2 -> 3
                """);
    }

    private static void read() {
        Script.run("17 read", """
                text 0 -> 0
                text 1 -> 1
                text 2 -> 2
                read 0 -1 -> IOOBE
                word 0 -> 0
                word 1 -> 1
                word 0 -> 2
                # without readings, not even its own text is one
                read 0 0 -> IAE
                read 0 -1 -> -1
                reading 0 1 -> 1
                reading 0 2 -> 2
                read 0 1 -> -1
                read 0 2 -> 1
                read 0 2 -> 2
                read 0 0 -> IAE
                read 0 3 -> IAE
                read 0 -2 -> IAE
                read 0 2147483647 -> IAE
                read 1 1 -> IAE
                read 1 2 -> IAE
                read 3 1 -> IOOBE
                read -1 1 -> IOOBE
                read -1 -1 -> IOOBE
                # the one named first
                read 3 9 -> IOOBE
                # what threw changed nothing; each word is for itself
                read 0 -1 -> 2
                read 0 1 -> -1
                read 2 2 -> -1
                read 0 -1 -> 1
                read 2 -1 -> 2
                """);
    }

    private static void belonging() {
        Script.run("38 which words are of a lemma", """
                text 0 -> 0
                text 1 -> 1
                text 2 -> 2
                # another text with the same signs
                text 0 -> 3
                word 0 -> 0
                word 3 -> 1
                word 1 -> 2
                word 0 -> 3
                all lineAt 0 true -> 0 3
                all lineAt 3 true -> 1
                all lineAt 1 true -> 2
                all lineAt 2 true ->
                # open readings
                reading 0 1 -> 1
                reading 0 2 -> 2
                all lineAt 0 true ->
                all lineAt 1 true -> 0 2 3
                all lineAt 2 true -> 0 3
                # read
                read 3 2 -> -1
                all lineAt 1 true -> 0 2
                all lineAt 2 true -> 0 3
                read 0 1 -> -1
                all lineAt 1 true -> 0 2
                all lineAt 2 true -> 3
                # a reading that is told later does not count for what was read
                reading 0 0 -> 3
                all lineAt 0 true ->
                read 3 -1 -> 2
                all lineAt 0 true -> 3
                all lineAt 2 true -> 3
                read 3 0 -> -1
                all lineAt 0 true -> 3
                all lineAt 2 true ->
                """);
    }

    private static void order() {
        Script.run("38 by neighbours", """
                text 0 -> 0
                text 1 -> 1
                text 2 -> 2
                text 14 -> 3
                # 0 2 0 1 0 14 0 2 0
                word 0 -> 0
                all lineAt 0 false -> 0
                all lineAt 0 true -> 0
                word 2 -> 1
                word 0 -> 2
                word 1 -> 3
                word 0 -> 4
                word 3 -> 5
                word 0 -> 6
                word 2 -> 7
                word 0 -> 8
                # the last one has none to the right
                all lineAt 0 false -> 8 2 0 6 4
                all lineAt 0 true -> 0 4 2 8 6
                # the one has nothing behind its neighbour, the other one nothing ahead of it
                all lineAt 2 false -> 7 1
                all lineAt 2 true -> 1 7
                all lineAt 1 true -> 3
                all lineAt 3 true -> 5
                # the same ones by the second neighbours, and then by numbers
                word 2 -> 9
                all lineAt 2 false -> 9 1 7
                all lineAt 2 true -> 1 9 7
                """);
    }

    private static void secondNeighbours() {
        Script.run("38 second neighbours", """
                text 0 -> 0
                text 1 -> 1
                text 2 -> 2
                text 3 -> 3
                # 3 1 0 1 3 | 2 1 0 1 2 | 3 1 0 1 2 | 0 1
                word 3 -> 0
                word 1 -> 1
                word 0 -> 2
                word 1 -> 3
                word 3 -> 4
                word 2 -> 5
                word 1 -> 6
                word 0 -> 7
                word 1 -> 8
                word 2 -> 9
                word 3 -> 10
                word 1 -> 11
                word 0 -> 12
                word 1 -> 13
                word 2 -> 14
                word 0 -> 15
                word 1 -> 16
                # 1 each time, and then nothing, 2, 2, 3
                all lineAt 0 false -> 15 7 12 2
                """);
        Script.run("38 second neighbours to the left, and none", """
                text 0 -> 0
                text 1 -> 1
                text 2 -> 2
                word 1 -> 0
                word 0 -> 1
                word 2 -> 2
                word 1 -> 3
                word 0 -> 4
                word 1 -> 5
                word 0 -> 6
                word 1 -> 7
                word 0 -> 8
                # 1 to the left each time; then nothing, 0, 0 and 2
                all lineAt 0 true -> 1 6 8 4
                # third neighbours are of no use: 1 0 each time
                all lineAt 0 false -> 8 4 6 1
                """);
    }

    private static void tailored() {
        Script.run("38 in the tailoring 0 on the strength 3", """
                text 0 -> 0
                text 1 -> 1
                text 13 -> 2
                text 1 24 -> 3
                text 28 1 -> 4
                # 0 28 1, 0 1', 0 capital 1, 0 1
                word 0 -> 0
                word 4 -> 1
                word 0 -> 2
                word 3 -> 3
                word 0 -> 4
                word 2 -> 5
                word 0 -> 6
                word 1 -> 7
                all lineAt 0 false -> 0 6 4 2
                # on the fourth level alone 28 1 and 1 differ: then by the second neighbours, none and 0
                option 0 0 true -> false
                all lineAt 0 false -> 6 0 4 2
                option 0 0 false -> true
                option 1 0 true -> false
                rule 1 0 : 1 / 13 -> 1
                all lineAt 0 false -> 0 6 4 2
                rule 0 4 : 1 / 13 -> 1
                all lineAt 0 false -> 0 4 6 2
                """);
        Script.run("38 those that are the same on the strength 3, by numbers", """
                text 0 -> 0
                text 1 -> 1
                text 29 1 -> 2
                text 2 -> 3
                option 0 0 true -> false
                # 2 0 29 1, 2 0 1, 2 0 29 1
                word 3 -> 0
                word 0 -> 1
                word 2 -> 2
                word 3 -> 3
                word 0 -> 4
                word 1 -> 5
                word 3 -> 6
                word 0 -> 7
                word 2 -> 8
                word 3 -> 9
                all lineAt 0 false -> 1 4 7
                all lineAt 0 true -> 1 4 7
                """);
    }

    private static void lineThrows() {
        Script.run("38 what is thrown", """
                lineAt 0 true 0 -> IOOBE
                text 0 -> 0
                lineAt 0 true 0 -> IOOBE
                word 0 -> 0
                lineAt 0 true 0 -> 0
                lineAt 0 false 0 -> 0
                lineAt 0 true 1 -> IOOBE
                lineAt 0 true -1 -> IOOBE
                lineAt 0 false 2147483647 -> IOOBE
                lineAt 0 false -2147483648 -> IOOBE
                lineAt 1 true 0 -> IOOBE
                lineAt -1 true 0 -> IOOBE
                text 1 -> 1
                lineAt 1 false 0 -> IOOBE
                """);
    }
}
