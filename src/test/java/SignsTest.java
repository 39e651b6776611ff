/** The promises 1 to 6, 21 and 22: signs, texts and the anchor. */
public final class SignsTest {
    private SignsTest() {
    }

    public static void main(String[] args) {
        newObject();
        sign();
        compose();
        text();
        wipe();
        anchor();
        apart();
        together();
        Script.end();
    }

    private static void newObject() {
        Script s = Script.run("1 a new object", """
                texts -> 0
                entries -> 0
                dead -> 0
                wipe -> 0
                signAt 0 true 0 -> IOOBE
                leads 0 -> IOOBE
                read 0 -1 -> IOOBE
                lineAt 0 true 0 -> IOOBE
                edition -> ISE
                columns 12 10 -> 12
                heading 0 false -> 0
                draft 0
                rule 0 1 -> ISE
                wipe -> 1
                """);
        for (int t = 0; t < 3; t++) {
            s.due(0, "rules", t);
            s.due(0, "moved", t);
            s.due("IOOBE", "entryAt", t, 0);
            s.due(1000029, "itemAt", t, 0);
            s.due(1000030, "itemAt", t, 1);
            for (int d = 0; d < 10; d++) {
                s.due(1000031 + d, "itemAt", t, 2 + d);
            }
            for (int l = 0; l < 12; l++) {
                s.due(1000001 + l, "itemAt", t, 12 + 2 * l);
                s.due(3000013 + l, "itemAt", t, 13 + 2 * l);
            }
            s.due("IOOBE", "itemAt", t, 36);
            for (int what = 0; what < 3; what++) {
                s.due(false, "option", t, what, false);
            }
        }
        for (int c = 40; c < 48; c++) {
            s.due("IOOBE", "sign", c);
        }
        Script.same("1 NONE", Collationer.NONE, -1);
        Script.run("1 columns at first", """
                columns 40 4 -> 12
                columns 12 10 -> 40
                """);
        Script.run("1 objects are each for themselves", "text 0 -> 0");
        Script.run("1 objects are each for themselves", "text 0 -> 0");
    }

    private static void sign() {
        Script.run("2 sign", """
                sign 0 -> 1
                sign 39 -> 2
                sign 23 -> 3
                sign 24 -> 4
                sign 28 -> 5
                sign -1 -> IOOBE
                sign 48 -> IOOBE
                sign 2147483647 -> IOOBE
                sign -2147483648 -> IOOBE
                sign 40 -> IOOBE
                sign 47 -> IOOBE
                wipe -> 5
                compose 47 0 24 -> 1
                sign 46 -> IOOBE
                sign 47 -> 1
                times 9 sign 1
                sign 1 -> ISE
                # the one named first
                sign 48 -> IOOBE
                sign 46 -> IOOBE
                wipe -> 10
                sign 5 -> 1
                text -> 0
                signAt 0 true 0 -> 5
                signAt 0 true 1 -> -1
                """);
        for (int from = 0; from < 40; from += 20) {
            Script s = new Script("2 every sign");
            for (int sign = from; sign < from + 20; sign++) {
                s.due(1, "sign", sign);
                s.due(sign - from, "text");
                s.due(sign, "signAt", sign - from, true, 0);
                s.due(sign, "signAt", sign - from, false, 0);
                s.due(-1, "signAt", sign - from, false, 1);
            }
        }
    }

    private static void compose() {
        Script.run("3 compose", """
                compose 40 0 24 -> 1
                compose 47 23 27 -> 2
                compose 41 40 26 -> 3
                # a base that is composed of a composed one
                compose 42 41 27 -> IOOBE
                # a base that is not there
                compose 42 43 27 -> IOOBE
                compose 42 42 27 -> IOOBE
                compose 42 24 24 -> IOOBE
                compose 42 28 24 -> IOOBE
                compose 42 39 24 -> IOOBE
                compose 42 -1 24 -> IOOBE
                compose 42 48 24 -> IOOBE
                compose 42 0 23 -> IOOBE
                compose 42 0 28 -> IOOBE
                compose 42 0 -1 -> IOOBE
                compose 39 0 25 -> IOOBE
                compose 48 0 25 -> IOOBE
                compose -1 0 25 -> IOOBE
                # the sign is there
                compose 40 1 24 -> ISE
                compose 40 0 24 -> ISE
                compose 40 40 24 -> ISE
                # another one is composed of both
                compose 42 0 24 -> ISE
                compose 42 40 26 -> ISE
                compose 42 23 27 -> ISE
                # the one named first
                compose 40 0 28 -> IOOBE
                compose 40 41 24 -> IOOBE
                compose 40 28 24 -> IOOBE
                # what threw changed nothing
                sign 42 -> IOOBE
                compose 42 0 25 -> 4
                compose 43 12 24 -> 5
                compose 44 40 24 -> 6
                compose 45 40 27 -> 7
                compose 46 11 24 -> 8
                text 42 -> 0
                signAt 0 true 0 -> 0
                signAt 0 true 1 -> 25
                text 47 -> 1
                signAt 1 true 0 -> 23
                signAt 1 true 1 -> 27
                signAt 1 true 2 -> -1
                """);
    }

    private static void text() {
        Script.run("4 text", """
                text -> ISE
                text 3 -> 0
                text -> ISE
                text 3 4 -> 1
                texts -> 2
                wipe -> 0
                signAt 1 true 1 -> 4
                times 28 text 5
                texts -> 30
                draft 1 2
                text -> ISE
                wipe -> 2
                text -> ISE
                texts -> 30
                signAt 29 true 0 -> 5
                signAt 30 true 0 -> IOOBE
                """);
        Script.run("4 a text of 10 signs, and of 30 apart", """
                compose 40 0 24 -> 1
                compose 41 40 24 -> 2
                text 41 41 41 41 41 41 41 41 41 41 -> 0
                signAt 0 true 27 -> 0
                signAt 0 true 29 -> 24
                signAt 0 true 30 -> -1
                signAt 0 false 9 -> 41
                signAt 0 false 10 -> -1
                text 0 1 2 3 4 5 6 7 8 9 -> 1
                signAt 1 true 9 -> 9
                """);
    }

    private static void wipe() {
        Script.run("5 wipe", """
                wipe -> 0
                draft 1 2 3
                wipe -> 3
                wipe -> 0
                text 7 -> 0
                signAt 0 true 0 -> 7
                signAt 0 true 1 -> -1
                # the anchor stays
                anchor 0 -> 1
                draft 1 2
                wipe -> 2
                draft 0 1
                rule 0 1 -> 1
                """);
    }

    private static void anchor() {
        Script.run("6 anchor", """
                anchor -> ISE
                compose 40 0 26 -> 1
                compose 41 40 27 -> 2
                anchor 41 24 -> 4
                wipe -> 0
                text -> ISE
                anchor 41 41 41 41 41 41 41 41 41 41 -> 30
                anchor 3 -> 1
                # the last one counts; and what threw changed nothing
                anchor -> ISE
                draft 5
                rule 0 1 -> 1
                itemAt 0 20 -> 1000006
                # it is gone with the rule
                draft 6
                rule 0 1 -> ISE
                wipe -> 1
                anchor 40 -> 2
                draft 6
                # 0 and 26 are no item
                rule 0 1 -> ISE
                # an anchor stays behind a text
                wipe -> 1
                anchor 4 -> 1
                text 1 -> 0
                draft 3
                rule 0 1 -> 2
                """);
    }

    private static void apart() {
        Script.run("22 taken apart", """
                compose 40 0 26 -> 1
                compose 41 40 24 -> 2
                compose 42 12 27 -> 3
                # marks go by their classes, those of the same class as they were
                text 0 27 26 25 24 25 -> 0
                signAt 0 true 0 -> 0
                signAt 0 true 1 -> 25
                signAt 0 true 2 -> 24
                signAt 0 true 3 -> 25
                signAt 0 true 4 -> 26
                signAt 0 true 5 -> 27
                signAt 0 true 6 -> -1
                # only those that stand side by side
                draft 26 24 0 27 24 28 26 25 30 27
                sign 26 -> ISE
                wipe -> 10
                text 26 24 0 27 24 28 26 25 30 27 -> 1
                signAt 1 true 0 -> 24
                signAt 1 true 1 -> 26
                signAt 1 true 2 -> 0
                signAt 1 true 3 -> 24
                signAt 1 true 4 -> 27
                signAt 1 true 5 -> 28
                signAt 1 true 6 -> 25
                signAt 1 true 7 -> 26
                signAt 1 true 8 -> 30
                signAt 1 true 9 -> 27
                # composed ones, with their marks
                text 41 25 42 24 -> 2
                signAt 2 true 0 -> 0
                signAt 2 true 1 -> 24
                signAt 2 true 2 -> 25
                signAt 2 true 3 -> 26
                signAt 2 true 4 -> 12
                signAt 2 true 5 -> 24
                signAt 2 true 6 -> 27
                signAt 2 true 7 -> -1
                signAt 2 true 2147483647 -> -1
                signAt 2 true -1 -> IOOBE
                signAt 2 false -1 -> IOOBE
                signAt 3 true 0 -> IOOBE
                signAt -1 false 0 -> IOOBE
                texts -> 3
                """);
    }

    private static void together() {
        Script.run("22 put together", """
                compose 40 0 24 -> 1
                compose 41 40 26 -> 2
                compose 42 0 26 -> 3
                compose 43 0 27 -> 4
                text 0 26 24 -> 0
                signAt 0 false 0 -> 41
                signAt 0 false 1 -> -1
                # 25 stays, and does not block 26
                text 0 25 26 -> 1
                signAt 1 false 0 -> 42
                signAt 1 false 1 -> 25
                signAt 1 false 2 -> -1
                # 25 blocks 24, which is of its class
                text 0 25 24 -> 2
                signAt 2 false 0 -> 0
                signAt 2 false 1 -> 25
                signAt 2 false 2 -> 24
                # 24 is gone, and does not block 25
                text 0 24 25 -> 3
                signAt 3 false 0 -> 40
                signAt 3 false 1 -> 25
                compose 44 40 25 -> 5
                signAt 3 false 0 -> 44
                signAt 3 false 1 -> -1
                # with the second 24 another one stays, so that 26 is not blocked, but 44 with 26 is none
                text 0 24 24 26 -> 4
                signAt 4 false 0 -> 41
                signAt 4 false 1 -> 24
                signAt 4 false 2 -> -1
                # no sign between
                text 28 24 0 27 29 24 35 26 24 0 -> 5
                signAt 5 false 0 -> 28
                signAt 5 false 1 -> 24
                signAt 5 false 2 -> 43
                signAt 5 false 3 -> 29
                signAt 5 false 4 -> 24
                signAt 5 false 5 -> 35
                signAt 5 false 6 -> 24
                signAt 5 false 7 -> 26
                signAt 5 false 8 -> 0
                signAt 5 false 9 -> -1
                # a mark at the beginning has no sign ahead
                text 24 0 24 -> 6
                signAt 6 false 0 -> 24
                signAt 6 false 1 -> 40
                # what is told later counts, too; a sign is put together in another way than it was told
                text 43 24 -> 7
                signAt 7 false 0 -> 40
                signAt 7 false 1 -> 27
                compose 45 40 27 -> 6
                signAt 7 false 0 -> 45
                signAt 7 false 1 -> -1
                signAt 7 true 0 -> 0
                signAt 7 true 1 -> 24
                signAt 7 true 2 -> 27
                # what stays ahead in another sign blocks nothing
                text 1 25 0 24 -> 8
                signAt 8 false 2 -> 40
                compose 46 13 24 -> 7
                text 13 24 24 -> 9
                signAt 9 false 0 -> 46
                signAt 9 false 1 -> 24
                """);
        Script.run("22 more than 10 signs, put together", """
                compose 40 0 27 -> 1
                compose 41 40 26 -> 2
                compose 42 0 24 -> 3
                text 41 24 -> 0
                # 24 comes first, and 26 and 27 have no sign any more
                signAt 0 false 0 -> 42
                signAt 0 false 1 -> 26
                signAt 0 false 2 -> 27
                text 41 41 41 41 41 41 41 41 41 41 -> 1
                # 26 comes first, and 0 with 26 is none; it stays and does not block 27
                signAt 1 false 0 -> 40
                signAt 1 false 1 -> 26
                signAt 1 false 19 -> 26
                signAt 1 false 20 -> -1
                """);
    }
}
