/** The promises 1 to 6, 21 and 22 at their bounds: ahead of each test a remark says the sentence that it is about. */
public final class SignBoundsTest {
    private SignBoundsTest() {
    }

    public static void main(String[] args) {
        newObject();
        newOptionsAndPlaces();
        sign();
        signThrows();
        compose();
        composeThrows();
        text();
        wipe();
        anchor();
        texts();
        signAt();
        apart();
        together();
        calls();
        Script.end();
    }

    private static void newObject() {
        // "No composed signs, texts, rules, entries and words"
        Script.run("Promise 1: no composed signs", """
                sign 40 -> IOOBE
                sign 41 -> IOOBE
                sign 42 -> IOOBE
                sign 43 -> IOOBE
                sign 44 -> IOOBE
                sign 45 -> IOOBE
                sign 46 -> IOOBE
                sign 47 -> IOOBE
                compose 40 41 24 -> IOOBE
                compose 40 0 24 -> 1
                """);
        // "No composed signs, texts, rules, entries and words"
        Script.run("Promise 1: no texts", """
                texts -> 0
                signAt 0 true 0 -> IOOBE
                signAt 0 false 0 -> IOOBE
                element 0 0 0 -> IOOBE
                keyAt 0 1 0 0 -> IOOBE
                compare 0 1 0 0 -> IOOBE
                compareByLevels 0 1 0 0 -> IOOBE
                find 0 1 0 0 0 -> IOOBE
                entry -1 0 1 -> IOOBE
                word 0 -> IOOBE
                reading 0 0 -> IOOBE
                lineAt 0 true 0 -> IOOBE
                text 0 -> 0
                """);
        // "No composed signs, texts, rules, entries and words"
        Script.run("Promise 1: no rules", """
                rules 0 -> 0
                rules 1 -> 0
                rules 2 -> 0
                adopt 0 1 -> 0
                adopt 1 2 -> 0
                adopt 2 0 -> 0
                rule 2 1 : 0 / 1 -> 1
                """);
        // "No composed signs, texts, rules, entries and words"
        Script.run("Promise 1: no entries", """
                entries -> 0
                entryAt 0 0 -> IOOBE
                entryAt 1 0 -> IOOBE
                entryAt 2 0 -> IOOBE
                beneath 0 0 -> IOOBE
                columnOf 0 0 -> IOOBE
                locatorAt 0 0 -> IOOBE
                leads 0 -> IOOBE
                dead -> 0
                form 0 0 0 -> IOOBE
                locate 0 1 0 -> IOOBE
                see 0 1 true -> IOOBE
                text 0 -> 0
                entry 0 0 1 -> IOOBE
                entry -1 0 7 -> 0
                """);
        // "No composed signs, texts, rules, entries and words"
        Script.run("Promise 1: no words", """
                read 0 -1 -> IOOBE
                text 0 -> 0
                lineAt 0 true 0 -> IOOBE
                lineAt 0 false 0 -> IOOBE
                read 0 -1 -> IOOBE
                word 0 -> 0
                """);
        // "There is none."
        Script.same("Promise 1: NONE", Collationer.NONE, -1);
    }

    private static void newOptionsAndPlaces() {
        // "all tailorings neither shifted nor backward, and digits for themselves"
        Script options = new Script("Promise 1: no options");
        for (int tailoring = 0; tailoring < 3; tailoring++) {
            for (int what = 0; what < 3; what++) {
                options.due(false, "option", tailoring, what, true);
            }
        }
        // "all tailorings neither shifted nor backward, and digits for themselves"
        Script.run("Promise 1: digits for themselves, nothing shifted, nothing backward", """
                text 30 31 -> 0
                text 28 -> 1
                text 0 24 -> 2
                all element 0 0 -> 30101 40101
                all element 1 0 -> 30101 40101
                all element 2 0 -> 30101 40101
                all keyAt 0 4 1 -> 2 1 2 1 2 1 1
                all keyAt 1 4 1 -> 2 1 2 1 2 1 1
                all keyAt 2 4 1 -> 2 1 2 1 2 1 1
                all keyAt 0 2 2 -> 14 1 63 66 1
                all keyAt 1 2 2 -> 14 1 63 66 1
                all keyAt 2 2 2 -> 14 1 63 66 1
                """);
        // "At first the list of each has 28, 29, 30 to 39, and then each letter and its capital, by rising letters"
        // "There are the tailorings 0, 1 and 2."
        Script lists = new Script("Promise 1: the lists at first");
        for (int tailoring = 0; tailoring < 3; tailoring++) {
            for (int sign = 28; sign < 40; sign++) {
                lists.due(1000001 + sign, "itemAt", tailoring, sign - 28);
            }
            for (int letter = 0; letter < 12; letter++) {
                lists.due(1000001 + letter, "itemAt", tailoring, 12 + 2 * letter);
                lists.due(3000013 + letter, "itemAt", tailoring, 13 + 2 * letter);
            }
            lists.due("IOOBE", "itemAt", tailoring, 36);
        }
        // "An index is set in columns of a width and a height, at first 12 and 10"
        Script.run("Promise 1: the columns at first", """
                text 0 1 2 3 4 5 6 7 8 9 -> 0
                times 11 entry -1 0 1
                entry -1 0 2 -> 11
                entry -1 0 2 -> 12
                # 10 entries of 10 signs fill a column
                columnOf 0 9 -> 9
                columnOf 0 10 -> 100
                see 11 12 false -> true
                # 15 signs, more than 12
                columnOf 1 12 -> 2
                columns 12 10 -> 12
                columnOf 0 9 -> 9
                columnOf 0 10 -> 100
                columnOf 1 12 -> 2
                """);
        // "`Collationer()`: No composed signs, texts, rules, entries and words"
        Script.run("Promise 1: no draft, anchor, heading or pin", """
                wipe -> 0
                draft 0
                rule 0 1 -> ISE
                wipe -> 1
                heading 11 false -> 0
                heading 0 true -> 1
                edition -> ISE
                pin 1 1 -> 1
                moved 0 -> 0
                moved 1 -> 0
                moved 2 -> 0
                """);
    }

    private static void sign() {
        // "Signs are 0 to 47: 0 to 11 letters, 0 to 5 of the script 0 and 6 to 11 of the script 1; 12 to 23 capitals"
        // "Puts a sign behind the draft."
        Script.run("Promise 2: the first and the last of the letters and capitals", """
                sign 0 -> 1
                sign 5 -> 2
                sign 6 -> 3
                sign 11 -> 4
                sign 12 -> 5
                sign 23 -> 6
                text -> 0
                all signAt 0 true -> 0 5 6 11 12 23
                """);
        // "24 to 27 marks, with the classes 1, 1, 2 and 3; 28 a blank and 29 a dash; 30 to 39 digits with the values 0 to 9"
        Script.run("Promise 2: the first and the last of the others", """
                sign 24 -> 1
                sign 27 -> 2
                sign 28 -> 3
                sign 29 -> 4
                sign 30 -> 5
                sign 39 -> 6
                text -> 0
                all signAt 0 true -> 24 27 28 29 30 39
                """);
        // "40 to 47 composed signs, which are there only when it is told of what they are composed"
        Script.run("Promise 2: the first and the last composed sign", """
                sign 40 -> IOOBE
                compose 40 0 24 -> 1
                sign 40 -> 1
                sign 41 -> IOOBE
                sign 47 -> IOOBE
                compose 47 0 25 -> 2
                sign 46 -> IOOBE
                sign 47 -> 2
                """);
        // "Returns how many signs the draft has then."
        Script.run("Promise 2: from 1 to 10 signs, and from 1 again when it was emptied", """
                sign 9 -> 1
                sign 9 -> 2
                sign 9 -> 3
                sign 9 -> 4
                sign 9 -> 5
                sign 9 -> 6
                sign 9 -> 7
                sign 9 -> 8
                sign 9 -> 9
                sign 9 -> 10
                wipe -> 10
                sign 9 -> 1
                text -> 0
                sign 8 -> 1
                anchor -> 1
                sign 7 -> 1
                rule 0 1 -> 1
                sign 6 -> 1
                """);
        // "Returns how many signs the draft has then."
        Script.run("Promise 2: a composed sign is one sign of the draft", """
                compose 40 0 24 -> 1
                compose 41 40 25 -> 2
                times 9 sign 41
                sign 41 -> 10
                sign 41 -> ISE
                """);
    }

    private static void signThrows() {
        // "`sign`: 0 to 47, one that is there"
        // "Throws `IndexOutOfBoundsException` if there is no such sign"
        Script.run("Promise 2: below 0, above 47, and far off", """
                sign -1 -> IOOBE
                sign 48 -> IOOBE
                sign least -> IOOBE
                sign greatest -> IOOBE
                sign -48 -> IOOBE
                wipe -> 0
                """);
        // "Throws `IllegalStateException` if it has 10"
        Script.run("Promise 2: the 10th sign and the 11th", """
                times 9 sign 1
                sign 2 -> 10
                sign 3 -> ISE
                sign 3 -> ISE
                text -> 0
                all signAt 0 true -> 1 1 1 1 1 1 1 1 1 2
                """);
        // "If several apply, the one that the throws clause names first is thrown."
        Script.run("Promise 2: no such sign, and a draft of 10", """
                times 10 sign 1
                sign -1 -> IOOBE
                sign 48 -> IOOBE
                sign 40 -> IOOBE
                sign least -> IOOBE
                sign greatest -> IOOBE
                sign 0 -> ISE
                wipe -> 10
                """);
        // "A call that throws an exception changes nothing."
        Script.run("Promise 2: a sign that is not there leaves the draft", """
                sign 1 -> 1
                sign 40 -> IOOBE
                sign 48 -> IOOBE
                sign 2 -> 2
                text -> 0
                all signAt 0 true -> 1 2
                """);
    }

    private static void compose() {
        // "Returns how many composed signs are there then."
        Script.run("Promise 3: from 1 to 8, in any order", """
                compose 47 0 24 -> 1
                compose 40 0 25 -> 2
                compose 46 0 26 -> 3
                compose 41 0 27 -> 4
                compose 45 1 24 -> 5
                compose 42 1 25 -> 6
                compose 44 1 26 -> 7
                compose 43 1 27 -> 8
                compose 43 2 24 -> ISE
                """);
        // "`base`: a letter, a capital, or a composed sign that is there, whose base is one of these"
        Script.run("Promise 3: the first and the last letter and capital", """
                compose 40 0 24 -> 1
                compose 41 11 24 -> 2
                compose 42 12 24 -> 3
                compose 43 23 24 -> 4
                compose 44 24 24 -> IOOBE
                compose 44 -1 24 -> IOOBE
                """);
        // "`base`: a letter, a capital, or a composed sign that is there, whose base is one of these"
        // "Tells of what a sign is composed."
        // "of a base, which is a letter, a capital, or a composed sign that is there and whose base is a letter or a capital, and a mark"
        Script.run("Promise 3: one composed sign deep, and two", """
                compose 40 0 24 -> 1
                compose 41 40 24 -> 2
                compose 42 41 24 -> IOOBE
                compose 43 23 24 -> 3
                compose 47 43 24 -> 4
                compose 42 47 24 -> IOOBE
                text 41 47 -> 0
                all signAt 0 true -> 0 24 24 23 24 24
                """);
        // "`mark`: 24 to 27"
        Script.run("Promise 3: the first and the last mark", """
                compose 40 0 24 -> 1
                compose 41 0 27 -> 2
                compose 42 0 23 -> IOOBE
                compose 42 0 28 -> IOOBE
                text 40 41 -> 0
                all signAt 0 true -> 0 24 0 27
                """);
        // "or another one is composed of both"
        Script.run("Promise 3: composed of one of both is another one", """
                compose 40 0 24 -> 1
                compose 41 0 25 -> 2
                compose 42 1 24 -> 3
                compose 43 0 24 -> ISE
                compose 43 1 25 -> 4
                """);
    }

    private static void composeThrows() {
        // "`sign`: 40 to 47"
        // "Throws `IndexOutOfBoundsException` if sign, base or mark is none of these"
        Script.run("Promise 3: a sign that can't be composed", """
                compose 39 0 24 -> IOOBE
                compose 48 0 24 -> IOOBE
                compose -1 0 24 -> IOOBE
                compose least 0 24 -> IOOBE
                compose greatest 0 24 -> IOOBE
                compose 0 0 24 -> IOOBE
                compose 40 0 24 -> 1
                """);
        // "Throws `IndexOutOfBoundsException` if sign, base or mark is none of these"
        Script.run("Promise 3: a base that is none", """
                compose 40 24 24 -> IOOBE
                compose 40 27 24 -> IOOBE
                compose 40 28 24 -> IOOBE
                compose 40 39 24 -> IOOBE
                compose 40 -1 24 -> IOOBE
                compose 40 48 24 -> IOOBE
                compose 40 least 24 -> IOOBE
                compose 40 greatest 24 -> IOOBE
                # composed signs that are not there, the sign itself too
                compose 40 40 24 -> IOOBE
                compose 40 41 24 -> IOOBE
                compose 40 47 24 -> IOOBE
                """);
        // "Throws `IndexOutOfBoundsException` if sign, base or mark is none of these"
        Script.run("Promise 3: a mark that is none", """
                compose 40 0 23 -> IOOBE
                compose 40 0 28 -> IOOBE
                compose 40 0 -1 -> IOOBE
                compose 40 0 0 -> IOOBE
                compose 40 0 40 -> IOOBE
                compose 40 0 least -> IOOBE
                compose 40 0 greatest -> IOOBE
                sign 40 -> IOOBE
                """);
        // "Throws `IllegalStateException` if the sign is there, or another one is composed of both"
        Script.run("Promise 3: a sign that is there, with other ones and with the same", """
                compose 40 0 24 -> 1
                compose 40 0 24 -> ISE
                compose 40 1 24 -> ISE
                compose 40 0 25 -> ISE
                compose 40 40 24 -> ISE
                compose 41 0 24 -> ISE
                sign 41 -> IOOBE
                """);
        // "If several apply, the one that the throws clause names first is thrown."
        Script.run("Promise 3: none of these, and the sign is there", """
                compose 40 0 24 -> 1
                compose 40 24 24 -> IOOBE
                compose 40 0 28 -> IOOBE
                compose 40 41 24 -> IOOBE
                compose 39 0 24 -> IOOBE
                compose 48 24 28 -> IOOBE
                """);
        // "A call that throws an exception changes nothing."
        Script.run("Promise 3: what threw is told of nothing", """
                compose 40 0 24 -> 1
                compose 40 1 25 -> ISE
                compose 41 0 24 -> ISE
                compose 42 24 24 -> IOOBE
                compose 43 0 23 -> IOOBE
                text 40 -> 0
                all signAt 0 true -> 0 24
                all signAt 0 false -> 40
                sign 41 -> IOOBE
                sign 42 -> IOOBE
                sign 43 -> IOOBE
                compose 41 1 25 -> 2
                """);
    }

    private static void text() {
        // "Throws `IllegalStateException` if the draft is empty, or there are 30 texts"
        Script.run("Promise 4: an empty draft, whatever emptied it", """
                text -> ISE
                sign 0 -> 1
                text -> 0
                text -> ISE
                sign 0 -> 1
                wipe -> 1
                text -> ISE
                sign 0 -> 1
                anchor -> 1
                text -> ISE
                sign 1 -> 1
                rule 0 1 -> 1
                text -> ISE
                texts -> 1
                """);
        // "a text has 1 to 10 signs"
        Script.run("Promise 4: a text of 1 sign and one of 10", """
                text 5 -> 0
                text 0 1 2 3 4 5 6 7 8 9 -> 1
                all signAt 0 true -> 5
                all signAt 1 true -> 0 1 2 3 4 5 6 7 8 9
                """);
        // "Texts are numbered from 0, at most 30"
        // "Returns the number of the text."
        Script full = new Script("Promise 4: the texts from 0 to 29");
        for (int number = 0; number < 30; number++) {
            full.due(1, "sign", number);
            full.due(number, "text");
        }
        full.lines("sign 0 -> 1\ntext -> ISE\nwipe -> 1\ntext -> ISE\ntexts -> 30");
        for (int number = 0; number < 30; number++) {
            full.due(number, "signAt", number, true, 0);
        }
        // "Makes a text of the draft, which is empty then."
        Script.run("Promise 4: the draft is empty then", """
                text 1 2 3 -> 0
                wipe -> 0
                sign 4 -> 1
                text -> 1
                all signAt 1 true -> 4
                """);
        // "A call that throws an exception changes nothing."
        Script.run("Promise 4: with 30 texts the draft and the texts stay", """
                times 30 text 0
                draft 1 2
                text -> ISE
                texts -> 30
                signAt 30 true 0 -> IOOBE
                all signAt 29 true -> 0
                wipe -> 2
                """);
    }

    private static void wipe() {
        // "Returns how many signs it had."
        Script.run("Promise 5: of none, of 1 and of 10", """
                wipe -> 0
                wipe -> 0
                sign 0 -> 1
                wipe -> 1
                wipe -> 0
                times 10 sign 0
                wipe -> 10
                wipe -> 0
                """);
        // "Returns how many signs it had."
        Script.run("Promise 5: of composed signs, which are not taken apart", """
                compose 40 0 24 -> 1
                compose 41 40 25 -> 2
                draft 41 41
                wipe -> 2
                """);
        // "Empties the draft."
        Script.run("Promise 5: the draft alone, not the anchor, and no text", """
                text 3 -> 0
                anchor 0 -> 1
                sign 1 -> 1
                wipe -> 1
                texts -> 1
                sign 1 -> 1
                rule 0 0 -> 1
                items 0 12 -> 1000001 4000002
                """);
    }

    private static void anchor() {
        // "Throws `IllegalStateException` if the draft is empty"
        Script.run("Promise 6: an empty draft, whatever emptied it", """
                anchor -> ISE
                sign 0 -> 1
                anchor -> 1
                anchor -> ISE
                sign 0 -> 1
                text -> 0
                anchor -> ISE
                sign 0 -> 1
                wipe -> 1
                anchor -> ISE
                sign 1 -> 1
                rule 0 0 -> 1
                anchor -> ISE
                """);
        // "Returns how many signs the anchor has, taken apart."
        Script.run("Promise 6: 1 sign, 10 signs, and 30, of 10 that are composed twice", """
                compose 40 0 24 -> 1
                compose 41 40 25 -> 2
                anchor 0 -> 1
                anchor 40 -> 2
                anchor 41 -> 3
                anchor 0 1 2 3 4 5 6 7 8 9 -> 10
                anchor 41 41 41 41 41 41 41 41 41 41 -> 30
                """);
        // "Makes the draft the anchor of the next rule; the draft is empty then."
        Script.run("Promise 6: the draft is empty then, and the last anchor counts", """
                anchor 5 -> 1
                wipe -> 0
                anchor 0 -> 1
                sign 1 -> 1
                rule 0 0 -> 1
                items 0 12 -> 1000001 4000002
                """);
        // "A call that throws an exception changes nothing."
        Script.run("Promise 6: without a draft the anchor stays", """
                anchor 0 -> 1
                anchor -> ISE
                sign 1 -> 1
                rule 0 0 -> 1
                items 0 12 -> 1000001 4000002
                """);
    }

    private static void texts() {
        // "`int texts()`: Returns how many texts there are."
        Script.run("Promise 21: none, 1 and 30", """
                texts -> 0
                text 0 -> 0
                texts -> 1
                texts -> 1
                times 28 text 0
                texts -> 29
                text 0 -> 29
                texts -> 30
                sign 0 -> 1
                text -> ISE
                texts -> 30
                """);
        // "`int texts()`: Returns how many texts there are."
        Script.run("Promise 21: drafts, anchors and rules are no texts", """
                sign 0 -> 1
                texts -> 0
                anchor -> 1
                texts -> 0
                sign 1 -> 1
                rule 0 0 -> 1
                texts -> 0
                text -> ISE
                texts -> 0
                """);
    }

    private static void signAt() {
        // "Throws `IndexOutOfBoundsException` if there is no such text, or index is below 0"
        // "`text`: its number"
        Script.run("Promise 22: no such text", """
                signAt 0 true 0 -> IOOBE
                signAt 0 false 0 -> IOOBE
                text 7 -> 0
                signAt 0 true 0 -> 7
                signAt 0 false 0 -> 7
                signAt 1 true 0 -> IOOBE
                signAt 1 false 0 -> IOOBE
                signAt -1 true 0 -> IOOBE
                signAt -1 false 0 -> IOOBE
                signAt least true 0 -> IOOBE
                signAt greatest false 0 -> IOOBE
                signAt 30 true 0 -> IOOBE
                # both
                signAt 1 true -1 -> IOOBE
                """);
        // "Throws `IndexOutOfBoundsException` if there is no such text, or index is below 0"
        // "`index`: from 0"
        Script.run("Promise 22: an index below 0", """
                text 7 -> 0
                signAt 0 true -1 -> IOOBE
                signAt 0 false -1 -> IOOBE
                signAt 0 true least -> IOOBE
                signAt 0 false least -> IOOBE
                """);
        // "Returns the sign; NONE if it has not so many."
        // "Returns a sign of a text, taken apart or put together."
        // "`isApart`: whether taken apart"
        Script.run("Promise 22: the last sign, the one behind it, and the greatest index", """
                compose 40 0 24 -> 1
                text 40 1 -> 0
                signAt 0 true 2 -> 1
                signAt 0 true 3 -> -1
                signAt 0 true 4 -> -1
                signAt 0 true greatest -> -1
                signAt 0 false 1 -> 1
                signAt 0 false 2 -> -1
                signAt 0 false greatest -> -1
                """);
        // "Returns the sign; NONE if it has not so many."
        Script.run("Promise 22: the longest text, of 30 signs taken apart", """
                compose 40 11 25 -> 1
                compose 41 40 27 -> 2
                text 41 41 41 41 41 41 41 41 41 41 -> 0
                signAt 0 true 0 -> 11
                signAt 0 true 28 -> 25
                signAt 0 true 29 -> 27
                signAt 0 true 30 -> -1
                signAt 0 true 31 -> -1
                signAt 0 false 9 -> 41
                signAt 0 false 10 -> -1
                """);
        // "Signs, texts, rules, entries, locators, references, words and pins are told; orders, keys, headings, lines and columns are asked, which changes nothing."
        Script.run("Promise 22: asked again, and between two texts", """
                text 1 2 -> 0
                sign 3 -> 1
                signAt 0 false 1 -> 2
                signAt 0 true 1 -> 2
                signAt 0 false 1 -> 2
                text 4 -> 1
                all signAt 1 true -> 3 4
                """);
    }

    private static void apart() {
        // "A text is taken apart like this: each composed sign becomes its base, taken apart, and its mark"
        Script.run("Promise 22: composed once, and twice", """
                compose 40 23 27 -> 1
                compose 41 40 26 -> 2
                text 40 -> 0
                text 41 -> 1
                text 41 40 23 -> 2
                all signAt 0 true -> 23 27
                all signAt 1 true -> 23 26 27
                all signAt 2 true -> 23 26 27 23 27 23
                """);
        // "then marks that stand side by side are put in order by their classes, those of the same class as they were"
        Script.run("Promise 22: 10 marks side by side, and nothing else", """
                text 27 27 26 26 25 24 25 24 24 25 -> 0
                all signAt 0 true -> 25 24 25 24 24 25 26 26 27 27
                text 24 -> 1
                all signAt 1 true -> 24
                text 27 26 -> 2
                all signAt 2 true -> 26 27
                text 25 24 -> 3
                all signAt 3 true -> 25 24
                """);
        // "then marks that stand side by side are put in order by their classes, those of the same class as they were"
        Script.run("Promise 22: marks at the beginning, between signs of each kind, and at the end", """
                text 27 24 0 27 24 12 27 24 -> 0
                text 28 27 24 29 27 24 30 27 24 -> 1
                all signAt 0 true -> 24 27 0 24 27 12 24 27
                all signAt 1 true -> 28 24 27 29 24 27 30 24 27
                """);
        // "then marks that stand side by side are put in order by their classes, those of the same class as they were"
        Script.run("Promise 22: marks of a composed sign and those behind it stand side by side", """
                compose 40 0 27 -> 1
                compose 41 40 25 -> 2
                text 41 24 26 -> 0
                all signAt 0 true -> 0 25 24 26 27
                """);
    }

    private static void together() {
        // "to each sign that is no mark, blank, dash or digit, the marks behind it up to the next sign that is none"
        Script.run("Promise 22: the first and the last of the letters and capitals", """
                compose 40 0 24 -> 1
                compose 41 11 24 -> 2
                compose 42 12 24 -> 3
                compose 43 23 24 -> 4
                text 0 24 11 24 12 24 23 24 -> 0
                all signAt 0 false -> 40 41 42 43
                """);
        // "to each sign that is no mark, blank, dash or digit, the marks behind it up to the next sign that is none"
        Script.run("Promise 22: marks behind a blank, a dash, digits and other marks, and marks with a sign between", """
                compose 40 0 24 -> 1
                text 28 24 29 24 30 24 39 24 -> 0
                all signAt 0 false -> 28 24 29 24 30 24 39 24
                text 24 24 -> 1
                all signAt 1 false -> 24 24
                text 0 28 24 0 30 24 0 1 24 -> 2
                all signAt 2 false -> 0 28 24 0 30 24 0 1 24
                text 24 0 -> 3
                all signAt 3 false -> 24 0
                """);
        // "a mark is blocked, if one that stays between them has its class or a greater one"
        Script.run("Promise 22: one that stays with a class less than its own, and with its own", """
                compose 40 0 24 -> 1
                compose 41 0 26 -> 2
                compose 42 0 27 -> 3
                # 25 stays, with the class 1
                text 0 25 24 -> 0
                all signAt 0 false -> 0 25 24
                text 0 25 26 -> 1
                all signAt 1 false -> 41 25
                text 0 25 27 -> 2
                all signAt 2 false -> 42 25
                # behind 41 another 26 stays, with the class 2, and then 27
                text 0 26 26 27 -> 3
                all signAt 3 false -> 41 26 27
                # behind 42 another 27 stays, with the class 3
                text 0 27 27 -> 4
                all signAt 4 false -> 42 27
                """);
        // "a mark is blocked, if one that stays between them has its class or a greater one"
        Script.run("Promise 22: the class 2 that stays blocks the class 2, and not the class 3", """
                compose 40 0 24 -> 1
                compose 41 40 26 -> 2
                compose 42 40 27 -> 3
                compose 43 1 27 -> 4
                compose 44 42 26 -> IOOBE
                # 1 with 26 is none: it stays, and 27 is not blocked
                text 1 26 27 -> 0
                all signAt 0 false -> 43 26
                # 40 takes 26; 41 with 26 is none, and with 27 neither
                text 0 24 26 26 27 -> 1
                all signAt 1 false -> 41 26 27
                """);
        // "some sign is composed of what that sign has become by then and the mark, it becomes this one, and the mark is gone"
        // "It is put together from its signs taken apart"
        Script.run("Promise 22: no mark, one, two, and a third one that stays", """
                compose 40 0 24 -> 1
                compose 41 40 24 -> 2
                text 0 -> 0
                text 0 24 -> 1
                text 0 24 24 -> 2
                text 0 24 24 24 -> 3
                all signAt 0 false -> 0
                all signAt 1 false -> 40
                all signAt 2 false -> 41
                all signAt 3 false -> 41 24
                """);
        // "some sign is composed of what that sign has become by then and the mark, it becomes this one, and the mark is gone"
        Script.run("Promise 22: the mark that is gone blocks none of its class", """
                compose 40 0 24 -> 1
                compose 41 40 25 -> 2
                text 0 24 25 -> 0
                all signAt 0 false -> 41
                # 25 is the first one here, and stays
                text 0 25 24 -> 1
                all signAt 1 false -> 0 25 24
                """);
    }

    private static void calls() {
        // "An object is used for at most 512 calls after it has been made"
        Script last = new Script("Promise 21: the 512th call");
        for (int call = 1; call < 256; call++) {
            last.due(1, "sign", 0);
            last.due(1, "wipe");
        }
        last.due(1, "sign", 0);
        last.due(0, "text");
        // "An object is used for at most 512 calls after it has been made"
        Script asked = Script.run("Promise 22: the 512th call, asked", "text 11 -> 0");
        for (int call = 3; call <= 512; call++) {
            asked.due(11, "signAt", 0, call % 2 == 0, 0);
        }
    }
}
