/** Promises 13, 14 and 25, each sentence that names a boundary by itself. */
public final class SetsEdgesTest {
    /** WAYS 015 025 035 045; PLACES 1 to 4 are one another's equals. */
    private static final String FAN = "house(6); is(0, 1); is(5, 2); doors 01 02 03 04 15 25 35 45\n";
    /** One WAY, 0 1 2 3 4 5; each PLAIN PLACE of it TOUCHES it. */
    private static final String CHAIN = "house(6); is(0, 1); is(5, 2); doors 01 12 23 34 45\n";

    public static void main(String[] args) {
        best();
        bestAtMost();
        firstAndLastPlace();
        bestOfNothing();
        bestOfEquals();
        bestOfKnown();
        cover();
        coverOfEquals();
        move();
        moveAtMostAndLeast();
        moveOfNothing();
        moveOfEquals();
        moveOfKnown();
        Checks.end();
    }

    private static void best() {
        Script.holds("Promise 13: k is not 0 .. 9", Script.FURNISHED,
            Script.each("!best(_, 9, 0) NONE; !best(_, MAX, 1) NONE; !best(_, 0, 2) NONE", "MIN -1 10 11 MAX"), """
            best(0, 9, 0) 0; best(0, 9, 1) 0; best(0, 9, 2) 0; best(9, 9, 0) 5; best(9, 9, 1) 36; best(9, 9, 2) 0
            """);
        Script.holds("Promise 13: b below 0", Script.FURNISHED,
            Script.each("!best(1, _, 0) NONE; !best(0, _, 1) NONE; !best(9, _, 2) NONE", "MIN -2 -1"), """
            best(1, 0, 0) 4; best(1, 0, 1) 4; best(1, 0, 2) 0; best(1, MAX, 0) 6; best(1, MAX, 1) 8; best(1, MAX, 2) 10
            """);
        Script.holds("Promise 13: another what", Script.FURNISHED,
            Script.each("!best(1, 9, _) NONE; !best(0, 0, _) NONE", "MIN -1 3 4 MAX"));
        Script.holds("Promise 13: k 9 where there are fewer PLACES", "house(3); is(0, 1); is(2, 2); doors 01 12",
            "best(9, 0, 0) 1; best(9, 0, 1) 2; best(9, 0, 2) 0; best(1, 0, 1) 2; best(0, 0, 1) 0; !best(10, 0, 1) NONE");
    }

    private static void bestAtMost() {
        Script.holds("Promise 13, Terms: at most k PLACES", FAN,
            Script.each("best(_, 0, 0) _", "0 1 2 3 4"), """
            best(5, 0, 0) 4; best(9, 0, 0) 4; best(1, 0, 1) 2; best(2, 0, 1) 6; best(3, 0, 1) 14; best(4, 0, 1) 30; best(9, 0, 1) 30
            """);
        Script.holds("Promise 13, Terms: at most b HONEST touches", Script.FURNISHED, """
            best(1, 9, 1) 4; best(1, 10, 1) 8; best(1, 11, 1) 8; best(2, 9, 1) 36; best(2, 10, 1) 8; best(1, 10, 2) 10
            round(1, 99, 8, 0x33333333); honest(8) 802; best(1, 801, 1) 4; best(1, 802, 1) 8; best(1, 802, 2) 802
            """);
        Script.holds("Promise 13, Terms: HONEST touches of several PLACES are summed", FAN, """
            round(0, 3, 4, 0x4321); best(4, 11, 0) 3; best(4, 12, 0) 4; best(4, 2, 0) 0; best(4, 3, 0) 1; best(4, 12, 2) 12
            """);
    }

    private static void firstAndLastPlace() {
        Script.holds("Promises 13, 14 and 25: the first PLACE", """
            house(3); is(1, 1); is(2, 2); doors 10 02; best(1, 0, 1) 1; best(1, 0, 0) 1; best(9, 0, 1) 1; cover() 1
            lay(1); move(0, 1, 0) 1; round(0, 1, 1, 0); !move(0, 1, 0) NONE; best(1, 0, 1) 0; best(1, 1, 1) 1; cover() 1
            """);
        Script.holds("Promises 13, 14 and 25: the last PLACE", """
            house(9); is(0, 1); is(1, 2); doors 08 81; best(1, 0, 1) 256; best(1, 0, 0) 1; best(9, 0, 1) 256; cover() 256
            lay(4); move(0, 0, 0) 4; move(0, 1, 0) 256; move(0, 1, 1) 1; move(0, 1, 2) 1; round(0, 1, 1, 8); !move(0, 1, 0) NONE
            best(1, 0, 1) 0; best(1, 1, 2) 1
            """);
    }

    private static void bestOfNothing() {
        Script.holds("Promise 13: no WAYS", "best(9, 0, 0) 0; best(9, 0, 1) 0; best(9, 0, 2) 0; !best(9, 0, 3) NONE");
        Script.holds("Promise 13: no PLAIN PLACE", """
            is(0, 1); is(1, 2); doors 01; ways() 1; best(9, MAX, 0) 0; best(9, MAX, 1) 0; best(9, MAX, 2) 0
            """);
        Script.holds("Promise 13: GATES and JEWELS are not taken", FAN, """
            is(1, 1); best(9, 0, 1) 28; best(9, 0, 0) 3; is(2, 2); best(9, 0, 1) 24; best(9, 0, 0) 2
            """);
        Script.holds("Promise 13: a PLACE on no WAY is not taken", FAN, "door(0, 2, false); best(9, 0, 1) 26");
    }

    private static void bestOfEquals() {
        Script.holds("Promise 13, Terms: the most WAYS before all else", FAN, """
            doors 12 32; round(0, 99, 1, 2); ways() 6; best(1, 99, 1) 4; best(1, 99, 2) 99; best(1, 98, 1) 2
            """);
        Script.holds("Promise 13, Terms: then the fewest PLACES", CHAIN, """
            best(9, MAX, 1) 2; round(0, 9, 4, 0x4321); best(9, MAX, 1) 2; best(9, 8, 1) 0
            """);
        Script.holds("Promise 13, Terms: the fewest PLACES before the fewest HONEST touches", """
            house(6); is(0, 1); is(5, 2); doors 01 13 02 23 35; round(0, 1, 1, 3); ways() 2
            best(9, 1, 1) 8; best(9, 1, 2) 1; best(9, 0, 1) 6; best(9, 0, 2) 0
            """);
        Script.holds("Promise 13, Terms: then the fewest HONEST touches", CHAIN, """
            round(0, 1, 3, 0x321); best(1, 9, 1) 16; best(1, 9, 2) 0; round(1, 2, 1, 4); best(1, 9, 1) 2; best(1, 9, 2) 1
            """);
        Script.holds("Promise 13, Terms: then the least as a number", FAN, """
            best(2, 0, 1) 6; round(0, 1, 1, 1); best(2, 9, 1) 12; round(0, 1, 2, 0x31); best(2, 9, 1) 20
            """);
    }

    private static void bestOfKnown() {
        Script.holds("Promise 13, Terms: not KNOWN", FAN, """
            bear(1); lay(2); touch(1); tell() 1; best(1, 0, 1) 4; best(9, 0, 1) 28; best(9, 0, 0) 3
            lay(0); best(9, 0, 1) 28; 9* day(); best(1, 0, 1) 4; day() 10; best(1, 0, 1) 2; best(9, 0, 1) 30
            """);
        Script.holds("Promise 13, Terms: all KNOWN", FAN, """
            bear(1); lay(30); touch(1); touch(2); touch(3); touch(4); tell() 4; best(9, MAX, 0) 0; best(9, MAX, 1) 0
            """);
    }

    private static void cover() {
        Script.holds("Promise 14: NONE if none does", FAN, """
            cover() 30; doors 05; !cover() NONE; door(0, 5, false); cover() 30
            is(3, 1); !cover() NONE; is(3, 0); cover() 30; is(3, 2); !cover() NONE
            """);
        Script.holds("Promise 14: no WAYS, so nothing TOUCHES them all", "cover() 0; house(9); cover() 0; is(0, 1); cover() 0");
        Script.holds("Promise 14: no PLAIN PLACE", "is(0, 1); is(1, 2); cover() 0; doors 01; !cover() NONE");
        Script.holds("Promise 14: no bound of HONEST touches", FAN,
            Script.each("round(_, 99, 8, 0x44332211)", "0 1 2 3 4 5"), "honest(30) 4752; cover() 30");
        Script.holds("Promise 14, Terms: not KNOWN", FAN, """
            bear(1); lay(16); touch(4); tell() 1; !cover() NONE; lay(0); 9* day(); !cover() NONE; day() 10; cover() 30
            """);
        Script.holds("Promise 14, Terms: another where one is KNOWN", CHAIN, """
            bear(1); lay(2); touch(1); tell() 1; cover() 4; lay(4); touch(2); tell() 1; cover() 8; 10* day(); cover() 2
            """);
    }

    private static void coverOfEquals() {
        Script.holds("Promise 14, Terms: the fewest PLACES, whatever is HONEST", """
            house(6); is(0, 1); is(5, 2); doors 01 13 02 23 35; cover() 8; round(0, 99, 1, 3); cover() 8
            """);
        Script.holds("Promise 14, Terms: of several with the fewest HONEST touches", CHAIN, """
            round(0, 1, 3, 0x321); cover() 16; round(1, 2, 1, 4); round(0, 1, 2, 0x31); cover() 4
            """);
        Script.holds("Promise 14, Terms: then the least number", CHAIN, """
            cover() 2; round(0, 1, 1, 1); cover() 4; round(0, 1, 4, 0x4321); cover() 2
            """);
    }

    private static void move() {
        Script.holds("Promise 25: b below 0", Script.FURNISHED,
            Script.each("!move(_, 0, 0) NONE; !move(_, 0, 1) NONE; !move(_, 0, 2) NONE", "MIN -2 -1"), """
            move(0, 0, 0) 36; move(0, 0, 1) 0; move(0, 0, 2) 5; move(MAX, 0, 0) 36
            """);
        Script.holds("Promise 25: w below 0", Script.FURNISHED,
            Script.each("!move(9, _, 0) NONE; !move(9, _, 1) NONE; !move(MAX, _, 2) NONE", "MIN -2 -1"), "move(9, 0, 0) 36");
        Script.holds("Promise 25: another what", Script.FURNISHED,
            Script.each("!move(100, 0, _) NONE; !move(0, 0, _) NONE", "MIN -1 3 4 MAX"));
        Script.holds("Promise 25: it is only told", Script.FURNISHED, """
            !move(20, 6, 0) 6; !move(20, 6, 1) 1; !move(20, 6, 2) 6; look(2) 36; look(5) 1
            """);
    }

    private static void moveAtMostAndLeast() {
        Script.holds("Promise 25: at least w WAYS", Script.FURNISHED, """
            move(100, 4, 0) 36; move(100, 5, 0) 36; move(100, 6, 0) 6; !move(100, 7, 0) NONE; !move(100, MAX, 0) NONE
            !move(100, 7, 1) NONE; !move(100, 7, 2) NONE; !move(MAX, MAX, 0) NONE; move(100, 6, 2) 6
            """);
        Script.holds("Promise 25: at most b HONEST touches", Script.FURNISHED, """
            move(20, 6, 0) 6; move(19, 6, 0) 12; move(10, 6, 0) 12; !move(9, 6, 0) NONE; move(9, 5, 0) 36; move(0, 5, 0) 36
            !move(9, 6, 1) NONE; !move(9, 6, 2) NONE
            """);
        Script.holds("Promise 25: the DECOYS have too many HONEST touches", FAN, """
            lay(6); round(0, 5, 1, 2); move(5, 0, 0) 6; move(4, 0, 0) 10; move(4, 0, 1) 1
            round(0, 5, 2, 0x21); move(9, 0, 0) 10; move(4, 0, 0) 24; move(4, 0, 1) 2; move(10, 0, 1) 0
            """);
    }

    private static void moveOfNothing() {
        Script.holds("Promise 25: no DECOYS", FAN, """
            move(0, 0, 0) 0; move(0, 0, 1) 0; move(0, 0, 2) 0; !move(0, 1, 0) NONE; !move(MAX, 1, 1) NONE
            """);
        Script.holds("Promise 25: no WAYS", "lay(1); move(0, 0, 0) 1; move(0, 0, 1) 0; move(0, 0, 2) 0; !move(0, 1, 0) NONE");
        Script.holds("Promise 25: all are DECOYS", """
            house(9); lay(511); move(0, 0, 0) 511; move(0, 0, 1) 0; round(0, 1, 1, 8); !move(0, 0, 0) NONE; move(1, 0, 0) 511
            """);
        Script.holds("Promise 25, Terms: as many PLACES as DECOYS, neither fewer nor more", FAN, """
            lay(2); move(0, 0, 0) 2; !move(0, 2, 0) NONE; lay(6); move(0, 2, 0) 6; !move(0, 3, 0) NONE
            door(0, 2, false); move(0, 0, 0) 6; move(0, 2, 0) 10
            """);
    }

    private static void moveOfEquals() {
        Script.holds("Promise 25, Terms: the most PLACES of the DECOYS before the most WAYS", FAN, """
            doors 12 13; lay(16); ways() 6; move(0, 1, 0) 16; move(0, 1, 2) 1; move(0, 2, 0) 2; move(0, 3, 0) 2; move(0, 3, 1) 1
            """);
        Script.holds("Promise 25, Terms: of these with the most WAYS TOUCHED", FAN, """
            doors 32; lay(18); round(0, 1, 1, 4); ways() 5; move(0, 0, 0) 6; move(0, 0, 2) 3; move(0, 0, 1) 1
            """);
        Script.holds("Promise 25, Terms: then the least number", FAN, """
            lay(24); round(0, 1, 1, 4); move(0, 0, 0) 10; round(0, 1, 2, 0x34); move(0, 0, 0) 6; move(0, 0, 1) 2
            round(0, 1, 2, 0x14); move(0, 0, 0) 12
            """);
    }

    private static void moveOfKnown() {
        Script.holds("Promise 25, Terms: not KNOWN", FAN, """
            bear(1); lay(6); touch(1); tell() 1; move(0, 0, 0) 12; move(0, 0, 1) 1; move(0, 0, 2) 2
            touch(2); tell() 1; move(0, 0, 0) 24; move(0, 0, 1) 2; 9* day(); move(0, 0, 0) 24; day(); move(0, 0, 0) 6
            """);
        Script.holds("Promise 25: fewer PLACES are left than there are DECOYS", FAN, """
            bear(1); lay(14); touch(1); tell() 1; move(0, 0, 0) 28; touch(2); tell() 1
            !move(MAX, 0, 0) NONE; !move(MAX, 0, 1) NONE; !move(MAX, 0, 2) NONE
            9* day(); !move(MAX, 0, 0) NONE; day() 10; move(0, 0, 0) 14; is(4, 1); move(0, 0, 0) 14
            """);
        Script.holds("Promise 25, Terms: PLAIN", FAN, """
            bear(1); lay(2); is(2, 1); touch(1); tell() 1; move(0, 0, 0) 8; is(3, 2); move(0, 0, 0) 16
            is(4, 1); !move(0, 0, 0) NONE
            """);
    }
}
