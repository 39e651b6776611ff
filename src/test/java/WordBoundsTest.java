/** The promises 15 to 17 and 38 at their bounds: ahead of each test a remark says the sentence that it is about. */
public final class WordBoundsTest {
    private WordBoundsTest() {
    }

    public static void main(String[] args) {
        word();
        reading();
        readingThrows();
        read();
        readThrows();
        lineAtThrows();
        belonging();
        firstNeighbours();
        secondNeighbours();
        strengthAndTailoring();
        Script.end();
    }

    private static void word() {
        // "Throws `IndexOutOfBoundsException` if there is no such text"
        // "`text`: its text"
        Script.run("Promise 15: no such text", """
                word 0 -> IOOBE
                text 0 -> 0
                word -1 -> IOOBE
                word 1 -> IOOBE
                word 30 -> IOOBE
                word least -> IOOBE
                word greatest -> IOOBE
                word 0 -> 0
                """);
        // "The corpus has words, numbered from 0, at most 30; each is a text."
        // "Returns its number."
        // "Throws `IllegalStateException` if there are 30"
        // "Adds a word to the corpus."
        Script full = new Script("Promise 15: the words from 0 to 29, and no more");
        full.lines("text 0 -> 0\ntext 1 -> 1");
        for (int number = 0; number < 30; number++) {
            full.due(number, "word", number % 2);
        }
        // the word 28 has no second neighbour to the right
        full.lines("word 0 -> ISE\nword 1 -> ISE\nlineAt 0 false 0 -> 28\nlineAt 0 false 14 -> 26\nlineAt 0 false 15 -> IOOBE");
        full.lines("read 29 -1 -> -1\nread 30 -1 -> IOOBE");
        // "If several apply, the one that the throws clause names first is thrown."
        Script.run("Promise 15: no such text, and there are 30 words", """
                text 0 -> 0
                times 30 word 0
                word 1 -> IOOBE
                word -1 -> IOOBE
                word greatest -> IOOBE
                word 0 -> ISE
                """);
        // "A call that throws an exception changes nothing."
        Script.run("Promise 15: what threw is no word", """
                text 0 -> 0
                word 0 -> 0
                word 1 -> IOOBE
                read 1 -1 -> IOOBE
                lineAt 0 true 1 -> IOOBE
                word 0 -> 1
                """);
        // "each is a text"
        Script.run("Promise 15: of the first text and the last of 30", """
                times 29 text 0
                text 1 -> 29
                word 29 -> 0
                word 0 -> 1
                all lineAt 29 false -> 0
                all lineAt 0 false -> 1
                """);
    }

    private static void reading() {
        // "A text can have at most 3 readings, which are texts, its lemmas."
        // "Returns how many readings it has then."
        // "Adds a reading of a text."
        Script.run("Promise 16: from 1 to 3, its own text too, and no 4th", """
                text 0 -> 0
                text 1 -> 1
                text 2 -> 2
                text 3 -> 3
                reading 0 0 -> 1
                reading 0 1 -> 2
                reading 0 2 -> 3
                reading 0 3 -> ISE
                reading 3 3 -> 1
                reading 3 0 -> 2
                """);
        // "A text can have at most 3 readings, which are texts, its lemmas."
        Script.run("Promise 16: the first text and the last of 30", """
                times 30 text 0
                reading 29 0 -> 1
                reading 29 29 -> 2
                reading 0 29 -> 1
                word 29 -> 0
                word 0 -> 1
                all lineAt 0 false -> 0
                all lineAt 29 false -> 1 0
                """);
    }

    private static void readingThrows() {
        // "Throws `IndexOutOfBoundsException` if there is no such text, of either"
        // "`text`: the text"
        // "`lemma`: a text, its lemma"
        Script.run("Promise 16: no such text, of each", """
                reading 0 0 -> IOOBE
                text 0 -> 0
                reading -1 0 -> IOOBE
                reading 1 0 -> IOOBE
                reading least 0 -> IOOBE
                reading greatest 0 -> IOOBE
                reading 0 -1 -> IOOBE
                reading 0 1 -> IOOBE
                reading 0 least -> IOOBE
                reading 0 greatest -> IOOBE
                reading 0 0 -> 1
                """);
        // "Throws `IllegalStateException` if it has this one, or 3"
        Script.run("Promise 16: it has this one, it has 3, and both", """
                text 0 -> 0
                text 1 -> 1
                text 2 -> 2
                text 3 -> 3
                reading 0 1 -> 1
                reading 0 1 -> ISE
                reading 0 2 -> 2
                reading 0 1 -> ISE
                reading 0 3 -> 3
                reading 0 0 -> ISE
                reading 0 3 -> ISE
                reading 1 1 -> 1
                """);
        // "If several apply, the one that the throws clause names first is thrown."
        Script.run("Promise 16: no such text, and it has 3", """
                text 0 -> 0
                text 1 -> 1
                text 2 -> 2
                reading 0 0 -> 1
                reading 0 1 -> 2
                reading 0 2 -> 3
                reading 0 3 -> IOOBE
                reading 0 -1 -> IOOBE
                reading 3 0 -> IOOBE
                reading 0 2 -> ISE
                """);
        // "A call that throws an exception changes nothing."
        Script.run("Promise 16: what threw is no reading", """
                text 0 -> 0
                text 1 -> 1
                word 0 -> 0
                reading 0 2 -> IOOBE
                reading 0 -1 -> IOOBE
                all lineAt 0 false -> 0
                reading 0 1 -> 1
                reading 0 1 -> ISE
                all lineAt 0 false ->
                all lineAt 1 false -> 0
                reading 0 0 -> 2
                """);
    }

    private static void read() {
        // "Returns as what it was read; NONE if it was not."
        // "Reads a word as one of the readings of its text."
        Script.run("Promise 17: not read, read as the first and the last of 3, again, and not read", """
                text 0 -> 0
                text 1 -> 1
                text 2 -> 2
                reading 0 0 -> 1
                reading 0 1 -> 2
                reading 0 2 -> 3
                word 0 -> 0
                read 0 -1 -> -1
                read 0 0 -> -1
                read 0 0 -> 0
                read 0 2 -> 0
                read 0 1 -> 2
                read 0 -1 -> 1
                read 0 -1 -> -1
                """);
        // "`lemma`: a reading of its text, or NONE, so that it was not read"
        Script.run("Promise 17: a text without readings, and one with them", """
                text 0 -> 0
                text 1 -> 1
                word 0 -> 0
                read 0 0 -> IAE
                read 0 -1 -> -1
                reading 0 1 -> 1
                read 0 0 -> IAE
                read 0 1 -> -1
                # the words of another text can't be read so
                word 1 -> 1
                read 1 1 -> IAE
                read 1 -1 -> -1
                """);
        // "`word`: its number"
        Script.run("Promise 17: the first word and the last of 30", """
                text 0 -> 0
                reading 0 0 -> 1
                times 30 word 0
                read 0 0 -> -1
                read 29 0 -> -1
                read 28 0 -> -1
                read 29 -1 -> 0
                read 0 -1 -> 0
                read 30 0 -> IOOBE
                """);
    }

    private static void readThrows() {
        // "Throws `IndexOutOfBoundsException` if there is no such word"
        Script.run("Promise 17: no such word", """
                read 0 -1 -> IOOBE
                text 0 -> 0
                read 0 -1 -> IOOBE
                word 0 -> 0
                read -1 -1 -> IOOBE
                read 1 -1 -> IOOBE
                read 30 -1 -> IOOBE
                read least -1 -> IOOBE
                read greatest -1 -> IOOBE
                """);
        // "Throws `IllegalArgumentException` if lemma is none of these"
        Script.run("Promise 17: lemmas that are none", """
                text 0 -> 0
                text 1 -> 1
                reading 0 1 -> 1
                word 0 -> 0
                read 0 -2 -> IAE
                read 0 0 -> IAE
                read 0 2 -> IAE
                read 0 30 -> IAE
                read 0 least -> IAE
                read 0 greatest -> IAE
                read 0 1 -> -1
                """);
        // "If several apply, the one that the throws clause names first is thrown."
        Script.run("Promise 17: no such word, and no such lemma", """
                text 0 -> 0
                word 0 -> 0
                read 1 0 -> IOOBE
                read -1 greatest -> IOOBE
                read 0 0 -> IAE
                """);
        // "A call that throws an exception changes nothing."
        Script.run("Promise 17: what threw leaves it as it was read", """
                text 0 -> 0
                text 1 -> 1
                reading 0 1 -> 1
                word 0 -> 0
                read 0 1 -> -1
                read 0 0 -> IAE
                read 0 -2 -> IAE
                read 1 -1 -> IOOBE
                all lineAt 1 false -> 0
                all lineAt 0 false ->
                read 0 1 -> 1
                """);
    }

    private static void lineAtThrows() {
        // "Throws `IndexOutOfBoundsException` if there is no such text or line"
        // "`lemma`: a text"
        Script.run("Promise 38: no such text", """
                lineAt 0 true 0 -> IOOBE
                text 0 -> 0
                word 0 -> 0
                lineAt 0 true 0 -> 0
                lineAt 0 false 0 -> 0
                lineAt -1 true 0 -> IOOBE
                lineAt 1 true 0 -> IOOBE
                lineAt least false 0 -> IOOBE
                lineAt greatest false 0 -> IOOBE
                lineAt 1 true -1 -> IOOBE
                """);
        // "`line`: from 0"
        Script.run("Promise 38: no line, one line, and the last one of 30", """
                text 0 -> 0
                lineAt 0 true 0 -> IOOBE
                word 0 -> 0
                lineAt 0 true 0 -> 0
                lineAt 0 true 1 -> IOOBE
                lineAt 0 true -1 -> IOOBE
                lineAt 0 true least -> IOOBE
                lineAt 0 false greatest -> IOOBE
                times 29 word 0
                # the last one has no neighbour to the right, and the one ahead of it no second one
                lineAt 0 false 0 -> 29
                lineAt 0 false 1 -> 28
                lineAt 0 false 2 -> 0
                lineAt 0 false 29 -> 27
                lineAt 0 false 30 -> IOOBE
                lineAt 0 true 29 -> 29
                lineAt 0 true 30 -> IOOBE
                """);
    }

    private static void belonging() {
        // "A word belongs to a lemma, if it was read as this"
        Script.run("Promise 38: read as one of 3, and only as this", """
                text 0 -> 0
                text 1 -> 1
                text 2 -> 2
                reading 0 0 -> 1
                reading 0 1 -> 2
                reading 0 2 -> 3
                word 0 -> 0
                all lineAt 0 true -> 0
                all lineAt 1 true -> 0
                all lineAt 2 true -> 0
                read 0 2 -> -1
                all lineAt 0 true ->
                all lineAt 1 true ->
                all lineAt 2 true -> 0
                read 0 -1 -> 2
                all lineAt 0 true -> 0
                all lineAt 1 true -> 0
                all lineAt 2 true -> 0
                """);
        // "or, if it was not read yet, if this is one of the readings of its text, or, without readings, its text itself (the text with this number)"
        Script.run("Promise 38: no readings, and then the first one", """
                text 0 -> 0
                text 0 -> 1
                word 0 -> 0
                # the same signs, but another text
                all lineAt 0 true -> 0
                all lineAt 1 true ->
                reading 0 1 -> 1
                all lineAt 0 true ->
                all lineAt 1 true -> 0
                word 0 -> 1
                word 1 -> 2
                all lineAt 1 true -> 0 1 2
                """);
    }

    private static void firstNeighbours() {
        // "one without a neighbour goes first each time"
        Script.run("Promise 38: the last word to the right, the first one to the left, and one word alone", """
                text 0 -> 0
                text 24 -> 1
                word 0 -> 0
                all lineAt 0 false -> 0
                all lineAt 0 true -> 0
                word 1 -> 1
                word 0 -> 2
                # 24 has an empty row on the first level, and is a neighbour all the same
                all lineAt 0 false -> 2 0
                all lineAt 0 true -> 0 2
                """);
        // "The lines of a lemma are its words, in order by their neighbours to the right, or to the left"
        // "Returns a word of the lines of a lemma."
        // "`isLeft`: whether neighbours to the left count"
        // "Returns the number of the word."
        Script.run("Promise 38: two neighbours, to each side", """
                text 0 -> 0
                text 1 -> 1
                text 2 -> 2
                # 2 0 1 | 1 0 2
                word 2 -> 0
                word 0 -> 1
                word 1 -> 2
                word 1 -> 3
                word 0 -> 4
                word 2 -> 5
                all lineAt 0 false -> 1 4
                all lineAt 0 true -> 4 1
                """);
        // "Texts are numbered from 0, at most 30"
        Script.run("Promise 38: the first text and the last of 30 are neighbours, the greatest and the least", """
                text 23 -> 0
                text 0 -> 1
                times 27 text 5
                text 28 -> 29
                word 2 -> 0
                word 0 -> 1
                word 2 -> 2
                word 1 -> 3
                word 2 -> 4
                word 29 -> 5
                all lineAt 2 false -> 4 2 0
                all lineAt 2 true -> 0 4 2
                """);
    }

    private static void secondNeighbours() {
        // "those that are the same by the second neighbours; one without a neighbour goes first each time; then by numbers"
        Script.run("Promise 38: the second neighbour to the right is none, or the least, or the greatest", """
                text 0 -> 0
                text 1 -> 1
                text 23 -> 2
                text 28 -> 3
                # 0 1 23 | 0 1 28 | 0 1
                word 0 -> 0
                word 1 -> 1
                word 2 -> 2
                word 0 -> 3
                word 1 -> 4
                word 3 -> 5
                word 0 -> 6
                word 1 -> 7
                all lineAt 0 false -> 6 3 0
                """);
        // "those that are the same by the second neighbours; one without a neighbour goes first each time; then by numbers"
        Script.run("Promise 38: the second neighbour to the left is none, or the least, or the greatest", """
                text 0 -> 0
                text 1 -> 1
                text 23 -> 2
                text 28 -> 3
                # 1 0 | 23 1 0 | 28 1 0
                word 1 -> 0
                word 0 -> 1
                word 2 -> 2
                word 1 -> 3
                word 0 -> 4
                word 3 -> 5
                word 1 -> 6
                word 0 -> 7
                all lineAt 0 true -> 1 7 4
                """);
        // "then by numbers"
        Script.run("Promise 38: the third neighbours do not count", """
                text 0 -> 0
                text 1 -> 1
                text 2 -> 2
                # 0 1 1 2 | 0 1 1 1 | 0 1 1
                word 0 -> 0
                word 1 -> 1
                word 1 -> 2
                word 2 -> 3
                word 0 -> 4
                word 1 -> 5
                word 1 -> 6
                word 1 -> 7
                word 0 -> 8
                word 1 -> 9
                word 1 -> 10
                all lineAt 0 false -> 0 4 8
                # to the left: none, 2 and 1
                all lineAt 0 true -> 0 8 4
                """);
    }

    private static void strengthAndTailoring() {
        // "by comparing the texts of the first neighbours in the tailoring 0 on the strength 3"
        Script.run("Promise 38: they differ on the third level, and on the fourth alone", """
                text 0 -> 0
                text 13 -> 1
                text 1 -> 2
                text 29 1 -> 3
                word 0 -> 0
                word 1 -> 1
                word 0 -> 2
                word 2 -> 3
                word 0 -> 4
                word 3 -> 5
                # 13 is behind 1 on the third level; 29 1 goes first, or shifted beside 1
                all lineAt 0 false -> 4 2 0
                option 0 0 true -> false
                # 4 has no second neighbour
                all lineAt 0 false -> 4 2 0
                word 0 -> 6
                # its second neighbour is 0 now, as that of 2; and 6 has no first one
                all lineAt 0 false -> 6 2 4 0
                option 0 0 false -> true
                all lineAt 0 false -> 6 4 2 0
                """);
        // "in the tailoring 0"
        Script.run("Promise 38: the tailorings 1 and 2 do not count", """
                text 0 -> 0
                text 1 -> 1
                text 2 -> 2
                word 0 -> 0
                word 1 -> 1
                word 0 -> 2
                word 2 -> 3
                rule 1 4 : 1 / 2 -> 1
                rule 2 4 : 1 / 2 -> 1
                all lineAt 0 false -> 0 2
                rule 0 4 : 1 / 2 -> 1
                all lineAt 0 false -> 2 0
                """);
    }
}
