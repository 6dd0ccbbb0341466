/** Promises 9 to 12, each sentence that names a boundary by itself. */
public final class WaysEdgesTest {
    public static void main(String[] args) {
        ways();
        whatIsNoWay();
        longestWay();
        justTheMostWays();
        oneWayTooMany();
        whatDoesNotHangOnWays();
        way();
        wayOfNone();
        touched();
        honest();
        Checks.end();
    }

    private static void ways() {
        Script.holds("Promise 9: none, for there is no DOOR, no GATE, no JEWEL", """
            ways() 0; is(0, 1); ways() 0; is(1, 2); ways() 0; doors 10; ways() 0; doors 01; ways() 1
            is(0, 0); ways() 0; is(0, 1); ways() 1; is(1, 1); ways() 0; is(0, 2); is(1, 2); ways() 0
            """);
        Script.holds("Promise 9: the least WAY", """
            is(0, 1); is(1, 2); doors 01; ways() 1; way(0, 0) 0; way(0, 1) 1; !way(0, 2) NONE
            """);
        Script.holds("Promise 9: WAYS follow each DOOR and each kind", Script.FURNISHED, """
            ways() 6; door(0, 1, false); ways() 2; door(0, 1, true); ways() 6
            !door(0, 1, true) false; ways() 6; is(4, 1); ways() 0; is(4, 2); ways() 6
            lay(0); ways() 6; house(6); ways() 0
            """);
    }

    private static void whatIsNoWay() {
        Script.holds("Promise 9, Terms: none twice", """
            house(4); is(0, 1); is(3, 2); doors 01 10 12 21 13; ways() 1; way(0, 1) 1; way(0, 2) 3; doors 03; ways() 2
            """);
        Script.holds("Promise 9, Terms: no other JEWEL on it", """
            house(4); is(0, 1); is(3, 2); doors 01 12 23; ways() 1; is(2, 2); ways() 1; way(0, 2) 2; !way(0, 3) NONE
            is(1, 2); ways() 1; way(0, 1) 1; !way(0, 2) NONE
            """);
        Script.holds("Promise 9, Terms: from a GATE, and over others", """
            house(3); is(0, 1); is(1, 1); is(2, 2); doors 01 12; ways() 2
            way(0, 0) 0; way(0, 1) 1; way(0, 2) 2; way(1, 0) 1; way(1, 1) 2; !way(1, 2) NONE
            doors 10; ways() 2; doors 02; ways() 4
            """);
    }

    private static void longestWay() {
        Script.holds("Promise 9, Terms: 6 PLACES at most", """
            house(9); is(0, 1); doors 01 12 23 34 45 56 67 78
            is(1, 2); ways() 1; is(1, 0); is(4, 2); ways() 1; way(0, 4) 4; !way(0, 5) NONE
            is(4, 0); is(5, 2); ways() 1; way(0, 5) 5; !way(0, 6) NONE
            is(5, 0); is(6, 2); ways() 0; !way(0, 0) NONE; is(6, 0); is(8, 2); ways() 0
            doors 48; ways() 1; way(0, 5) 8; is(3, 1); ways() 3; touched(1) 1; way(1, 5) 8; !way(2, 3) NONE
            """);
    }

    /** 2000 WAYS. No DOOR leads to GATE 0, so that one from 0 to the JEWEL makes just one WAY more. */
    private static String twoThousand() {
        StringBuilder all = new StringBuilder("house(9); is(0, 1); is(1, 1); is(2, 1); is(3, 1); is(8, 2)\ndoors");
        for (int a = 0; a < 8; a++) {
            for (int b = 1; b <= 8; b++) {
                String pair = "" + a + b;
                if (a != b && !"08 68 56 05".contains(pair)) {
                    all.append(' ').append(pair);
                }
            }
        }
        return all.append('\n').toString();
    }

    private static void justTheMostWays() {
        Script.holds("Promise 9, Terms: 2000 WAYS are told", twoThousand(), "ways() 2000");
        Script.holds("Promise 10: of 2000 WAYS", twoThousand(), """
            way(0, 0) 0; way(0, 4) 4; way(0, 5) 8; !way(0, 6) NONE
            way(1999, 0) 3; way(1999, 1) 8; !way(1999, 2) NONE; !way(2000, 0) NONE
            """);
        Script.holds("Promise 11: of 2000 WAYS", twoThousand(), """
            touched(511) 2000; touched(256) 2000; touched(255) 2000; touched(0) 0; !touched(512) NONE
            """);
        Script.holds("Promises 13, 14 and 25: of 2000 WAYS", twoThousand(), """
            best(0, 0, 0) 0; best(9, MAX, 1) 240; lay(16); move(0, 0, 1) 0; !move(0, 2000, 0) NONE
            """);
        Script.holds("Promises 18 to 20: of 2000 WAYS", twoThousand(), """
            left() 2000; leftWay(0) 0; leftWay(1999) 1999; !leftWay(2000) NONE; next() 15
            """);
    }

    private static void oneWayTooMany() {
        String more = twoThousand() + "lay(16); touch(4); doors 08\n";
        Script.holds("Promise 9, Terms: 2001 WAYS are not told", more, "!ways() NONE; door(0, 8, false); ways() 2000");
        Script.holds("Promise 10: nor one of them", more, "!way(0, 0) NONE; !way(1999, 0) NONE; !way(2000, 0) NONE");
        Script.holds("Promise 11: nor what TOUCHES them", more, "!touched(0) NONE; !touched(511) NONE");
        Script.holds("Promise 13: nor BEST", more, """
            !best(0, 0, 0) NONE; !best(0, 0, 1) NONE; !best(0, 0, 2) NONE; !best(9, MAX, 0) NONE
            """);
        Script.holds("Promises 18 to 20: nor LEFT and NEXT", more, """
            !left() NONE; !leftWay(0) NONE; !next() NONE; tell(); !left() NONE; !leftWay(0) NONE; !next() NONE
            """);
        Script.holds("Promise 25: nor MOVE", more, """
            !move(MAX, 0, 0) NONE; !move(MAX, 0, 1) NONE; !move(MAX, 0, 2) NONE; lay(0); !move(0, 0, 0) NONE
            """);
        // 4 + 24 + 120 + 480 WAYS from each GATE, all over one of 4 .. 7, to which COVER comes.
        Script.holds("Promise 14: nor COVER", """
            house(9); is(0, 1); is(1, 1); is(2, 1); is(3, 1); is(8, 2); all doors 8; doors 48 58 68 78
            !cover() NONE; !ways() NONE; is(3, 0); ways() 1884; cover() 240
            """);
        Script.holds("Promise 9: as many as can be", """
            house(9); all doors 9; is(0, 1); is(8, 2); ways() 1100; is(1, 1); !ways() NONE
            is(2, 1); is(3, 1); is(4, 1); is(5, 1); is(6, 1); is(7, 1); !ways() NONE; is(7, 2); !ways() NONE
            is(8, 0); !ways() NONE; house(9); ways() 0
            """);
    }

    private static void whatDoesNotHangOnWays() {
        Script.holds("Terms: what does not hang on WAYS is told with 2001", twoThousand(), """
            doors 08; !ways() NONE; round(0, 5, 1, 4) true; honest(16) 5; looks(4, 3) true; lay(48) true; unlike(4) 2
            touch(4) true; !touch(4) false; look(5) 1; tell() 0; tales(4) 1; bear(1) true; touch(4); tell() 1; look(3) 16
            day() 1; look(1) 54; visible(1) true; unlike(4) 1; !lay(16) false; !is(5, 1) false; is(6, 1) true
            """);
    }

    private static void way() {
        Script.holds("Promise 10: WAY i", Script.FURNISHED,
            Script.each("!way(_, 0) NONE; !way(_, 4) NONE", "MIN -1 6 7 2000 MAX"), "way(0, 0) 0; way(5, 0) 0");
        Script.holds("Promise 10: PLACE j of a WAY of 4, of 5 and of 6", Script.FURNISHED,
            Script.each("!way(2, _) NONE", "MIN -1 4 5 6 8 MAX"),
            Script.each("!way(0, _) NONE", "MIN -1 5 6 7 8 9 32 MAX"),
            Script.each("!way(1, _) NONE", "MIN -1 6 7 8 9 16 MAX"), """
            way(2, 0) 0; way(2, 1) 1; way(2, 2) 3; way(2, 3) 4
            way(1, 0) 0; way(1, 1) 1; way(1, 2) 2; way(1, 3) 3; way(1, 4) 5; way(1, 5) 4; way(0, 4) 4
            """);
        Script.holds("Promise 10, Terms: the lesser first at the first unlikeness, the shorter is not", """
            house(4); is(0, 1); is(3, 2); doors 03 02 23 01 12 13 21; ways() 5
            way(0, 1) 1; way(0, 2) 2; way(0, 3) 3; way(1, 1) 1; way(1, 2) 3; !way(1, 3) NONE
            way(2, 1) 2; way(2, 2) 1; way(3, 1) 2; way(3, 2) 3; way(4, 1) 3; !way(4, 2) NONE; !way(5, 0) NONE
            """);
    }

    private static void wayOfNone() {
        Script.holds("Promise 10: no WAY at all", "!way(0, 0) NONE; !way(-1, 0) NONE; !way(0, -1) NONE; !way(1, 0) NONE");
        Script.holds("Promise 10: no WAY any more", Script.FURNISHED, """
            way(5, 4) 4; door(0, 2, false); way(3, 4) 4; !way(4, 0) NONE; !way(5, 4) NONE; house(6); !way(0, 0) NONE
            """);
    }

    private static void touched() {
        Script.holds("Promise 11: NONE if it is none", Script.FURNISHED,
            Script.each("!touched(_) NONE", "MIN -64 -1 64 65 96 511 512 MAX"), "touched(63) 6");
        Script.holds("Promise 11: nothing TOUCHES nothing, all TOUCHES all", Script.FURNISHED, """
            touched(0) 0; touched(1) 6; touched(16) 6; touched(63) 6; touched(62) 6; touched(32) 3; touched(36) 5
            """);
        Script.holds("Promise 11: no WAYS", "touched(0) 0; touched(3) 0; !touched(4) NONE; !touched(-1) NONE");
        Script.holds("Promise 11: the greatest set", "house(9); touched(511) 0; !touched(512) NONE; house(8); touched(255) 0",
            "!touched(256) NONE; !touched(511) NONE");
    }

    private static void honest() {
        Script.holds("Promise 12: NONE if it is none", Script.FURNISHED,
            Script.each("!honest(_) NONE", "MIN -64 -1 64 65 96 511 512 MAX"), "honest(63) 30");
        Script.holds("Promise 12: nothing, one, all", Script.FURNISHED, """
            honest(0) 0; honest(2) 20; honest(8) 10; honest(10) 30; honest(4) 0; honest(63) 30
            """);
        Script.holds("Promise 12: no ROUNDS", "honest(0) 0; honest(3) 0; !honest(4) NONE; !honest(-1) NONE");
        Script.holds("Promise 12: the greatest set", "house(9); round(5, 1, 1, 8); honest(511) 1; honest(256) 1",
            "!honest(512) NONE; house(8); honest(255) 0; !honest(256) NONE; !honest(511) NONE");
        Script.holds("Promise 12, Terms: ROUNDS of 0 times and of no PLACES", """
            round(0, 0, 8, 0x11111111); round(5, 99, 0, 0); honest(3) 0; round(1, 1, 1, 1); honest(3) 1
            """);
    }
}
