/** Promises 1 to 8, each sentence that names a boundary by itself. */
public final class PlacesEdgesTest {
    public static void main(String[] args) {
        newObject();
        house();
        houseAnew();
        door();
        mostDoors();
        is();
        isOfDecoys();
        looks();
        visible();
        round();
        roundRows();
        look();
        lookAtTheMost();
        Checks.end();
    }

    private static void newObject() {
        Script.holds("Promise 1: two PLACES, no DOORS", """
            look(0) 2; look(1) 0; door(1, 0, true) true; look(1) 1
            !door(0, 2, true) false; !door(2, 0, true) false; !door(0, 0, true) false
            !is(2, 1) false; !looks(2, 1) false; !tales(2) NONE; !touched(4) NONE; !honest(4) NONE
            """);
        Script.holds("Promise 1: no DOOR that could be taken away", """
            !door(0, 1, false) false; !door(1, 0, false) false
            """);
        Script.holds("Promise 1, Terms: all is as it is at first", """
            look(2) 0; look(3) 0; look(4) 0; look(5) 0; look(6) 255; look(7) 3; !look(8) NONE
            ways() 0; !way(0, 0) NONE; touched(3) 0; honest(3) 0; cover() 0; left() 0; !leftWay(0) NONE; next() 0
            best(9, MAX, 0) 0; best(9, MAX, 1) 0; best(9, MAX, 2) 0
            move(MAX, 0, 0) 0; move(0, 0, 1) 0; move(0, 0, 2) 0; !move(MAX, 1, 0) NONE
            tales(0) 0; tales(1) 0; !unlike(0) NONE; !unlike(1) NONE; !touch(0) false; !touch(1) false
            !tell() 0   # an empty TALE
            """);
        Script.holds("Promise 1, Terms: PLACES are PLAIN at first, their LOOKS 0, all marks VISIBLE", """
            lay(3) true; lay(1) true; unlike(0) 0; looks(1, 255); unlike(0) 8
            lay(2) true; looks(1, 0); looks(0, 255); unlike(1) 8
            """);
        Script.holds("Promise 1, Terms: DECOYS BEAR 3 at first", """
            lay(1); touch(0) true; tell() 0; touch(0); tell() 0; look(3) 0; touch(0); tell() 1; look(3) 1
            """);
    }

    private static void house() {
        Script.holds("Promise 2, Terms: N 2 .. 9", """
            !house(1) false; look(0) 2
            house(2) true; look(0) 2; house(9) true; look(0) 9
            !house(10) false; look(0) 9; !house(1) false; !house(0) false
            """, Script.each("house(_) true; look(0) _", "2 3 4 5 6 7 8 9"));
        Script.holds("Promise 2: false, and nothing is done, if that can't be", Script.FURNISHED,
            Script.each("!house(_) false", "MIN -9 -2 -1 0 1 10 11 16 34 258 MAX"));
        Script.holds("Promise 2: nor with one KNOWN", Script.KNOWN, Script.each("!house(_) false", "1 10"));
        Script.holds("Promise 2: the last PLACE is N - 1", """
            house(9); looks(8, 1) true; !looks(9, 1) false; house(3); looks(2, 1) true; !looks(3, 1) false
            """);
    }

    private static void houseAnew() {
        for (int n = 2; n <= 9; n++) {
            // Behind the last call nothing but the HOUSE may show: the other run has it alone.
            Script.sameAs("Promise 2: all anew, " + n + " PLACES", "house(" + n + ")",
                Script.KNOWN, "touch(2); round(5, 99, 8, 0); house(" + n + ") true");
        }
        Script.holds("Promise 2: each thing anew by itself", Script.KNOWN, """
            touch(2); house(6) true
            look(0) 6; look(1) 0; look(2) 0; look(3) 0; look(4) 0; look(5) 0; look(6) 255; look(7) 3
            honest(63) 0; ways() 0; tales(2) 0; tales(5) 0; lay(63) true; lay(4); unlike(2) 0
            doors 04; ways() 0
            """);
        Script.holds("Promise 2: anew though N is the same", "lay(3); house(2) true; look(2) 0");
    }

    private static void door() {
        String house = "house(6); doors 01 54\n";
        Script.holds("Promise 3: none such", Script.FURNISHED,
            Script.each("!door(_, 1, true) false; !door(1, _, true) false", "MIN -1 6 7 9 32 37 MAX"),
            Script.each("!door(_, 0, false) false; !door(0, _, false) false", "MIN -1 6 33 MAX"));
        Script.holds("Promise 3: the least and the greatest PLACE", house, """
            door(0, 5, true) true; door(5, 0, true) true; look(1) 4
            !door(6, 0, true) false; !door(0, 6, true) false; !door(-1, 5, true) false; !door(5, -1, true) false
            """);
        Script.holds("Promise 3: the same", house,
            Script.each("!door(_, _, true) false; !door(_, _, false) false", "-1 0 1 2 3 4 5 6"));
        Script.holds("Promise 3: it was so", house, """
            !door(0, 1, true) false; look(1) 2; !door(1, 0, false) false
            door(0, 1, false) true; look(1) 1; !door(0, 1, false) false
            door(0, 1, true) true; look(1) 2; !door(0, 1, true) false
            """);
        Script.holds("Promise 3, Terms: each way by itself", house, """
            door(1, 0, true) true; look(1) 3; door(0, 1, false) true; look(1) 2; !door(1, 0, true) false
            is(1, 1); is(0, 2); ways() 1; is(1, 2); is(0, 1); ways() 0
            """);
    }

    private static void mostDoors() {
        StringBuilder again = new StringBuilder("house(9); all doors 9; look(1) 72\n");
        for (int a = 0; a < 9; a++) {
            again.append("!door(").append(a).append(", ").append((a + 1) % 9).append(", true) false\n");
            again.append("!door(").append(a).append(", ").append(a).append(", true) false\n");
        }
        Script.holds("Promise 3: as many as can be", again.toString(), """
            !door(8, 9, true) false; !door(9, 8, true) false; door(8, 0, false) true; look(1) 71
            """);
    }

    private static void is() {
        Script.holds("Promise 4: none such PLACE", Script.FURNISHED,
            Script.each("!is(_, 0) false; !is(_, 1) false; !is(_, 2) false", "MIN -1 6 7 9 32 33 MAX"));
        Script.holds("Promise 4: none such kind", Script.FURNISHED,
            Script.each("!is(1, _) false; !is(0, _) false", "MIN -1 3 4 MAX"));
        Script.holds("Promise 4: the least and the greatest PLACE and kind", """
            house(9); is(0, 0) true; is(0, 1) true; is(0, 2) true; is(8, 0) true; is(8, 2) true; is(8, 1) true
            !is(9, 0) false; !is(-1, 2) false; !is(8, 3) false; !is(0, -1) false
            doors 80; ways() 1; way(0, 0) 8; way(0, 1) 0
            """);
        Script.holds("Promise 4: a PLACE is one of the three", """
            is(0, 1); is(1, 2); doors 01 10; ways() 1; is(0, 2) true; ways() 0; is(1, 1) true; ways() 1
            !lay(1) false; !lay(2) false; is(0, 0) true; ways() 0; lay(1) true; lay(0); is(1, 0) true; lay(3) true
            """);
        Script.holds("Promise 4: what it is already is no fault", """
            is(0, 0) true; is(0, 1) true; is(0, 1) true; is(1, 2) true; is(1, 2) true; doors 01; ways() 1
            """);
    }

    private static void isOfDecoys() {
        Script.holds("Promise 4: it is a DECOY", Script.FURNISHED,
            Script.each("!is(2, _) false; !is(5, _) false", "-1 0 1 2 3"), """
            is(3, 1) true; is(3, 0) true       # its neighbour is none
            lay(32); is(2, 1) true; !is(5, 1) false; lay(0); is(5, 2) true
            """);
        Script.holds("Promise 4: it is a DECOY and KNOWN", Script.KNOWN, Script.each("!is(5, _) false", "0 1 2"), """
            lay(4); is(5, 2) true; look(3) 32; is(5, 0) true; !lay(32) false
            """);
        Script.holds("Promise 4: all are DECOYS", "house(9); lay(511)",
            Script.each("!is(_, 1) false", "0 1 2 3 4 5 6 7 8 9"));
    }

    private static void looks() {
        Script.holds("Promise 5: the PLACE can't be", Script.FURNISHED,
            Script.each("!looks(_, 1) false; !looks(_, 0) false", "MIN -1 6 7 9 32 34 MAX"));
        Script.holds("Promise 5: the marks can't be", Script.FURNISHED,
            Script.each("!looks(2, _) false; !looks(0, _) false", "MIN -256 -1 256 257 511 65536 MAX"));
        Script.holds("Promise 5: the least and the greatest", """
            house(9); lay(256); looks(8, 255) true; unlike(8) 8; !looks(8, 256) false; !looks(9, 255) false
            looks(8, 0) true; unlike(8) 0; !looks(8, -1) false; looks(8, 254) true; unlike(8) 7
            lay(510); looks(0, 255) true; unlike(8) 1; !looks(-1, 0) false; looks(0, 0) true; unlike(8) 7
            """);
        Script.holds("Promise 5: DECOYS, GATES and JEWELS have LOOKS, too", Script.FURNISHED, """
            visible(255); looks(5, 128) true; unlike(5) 1; looks(0, 136) true; looks(4, 160) true
            looks(1, 255); looks(3, 255); unlike(5) 1; looks(4, 128) true; unlike(5) 0; looks(4, 128) true
            """);
    }

    private static void visible() {
        Script.holds("Promise 6: 0 .. 255, false for others", Script.FURNISHED,
            Script.each("!visible(_) false; look(6) 251", "MIN -255 -1 256 257 511 MAX"), """
            visible(0) true; look(6) 0; !visible(-1) false; !visible(256) false
            visible(255) true; look(6) 255; visible(255) true; visible(254) true; look(6) 254
            """);
        Script.holds("Promise 6: none VISIBLE, one, all", """
            looks(0, 255); lay(1); visible(0) true; unlike(0) 0
            visible(1) true; unlike(0) 1; visible(128) true; unlike(0) 1; visible(255) true; unlike(0) 8
            """);
    }

    private static void round() {
        Script.holds("Promise 7: ROUND 0 .. 5", Script.FURNISHED,
            Script.each("!round(_, 1, 1, 2) false", "MIN -1 6 7 MAX"),
            Script.each("round(_, 1, 1, 2) true", "0 1 2 3 4 5"), "honest(4) 6");
        Script.holds("Promise 7, Terms: 0 .. 99 times a DAY", Script.FURNISHED,
            Script.each("!round(0, _, 1, 2) false; !round(3, _, 0, 0) false", "MIN -1 100 101 MAX"), """
            round(0, 99, 1, 2) true; honest(4) 99; honest(2) 0; !round(0, 100, 1, 2) false
            round(0, 0, 1, 2) true; honest(4) 0; !round(0, -1, 1, 2) false; round(0, 1, 1, 2) true; honest(4) 1
            """);
        Script.holds("Promise 7: 0 .. 8 PLACES", Script.FURNISHED,
            Script.each("!round(0, 1, _, 0) false; !round(3, 0, _, 0) false", "MIN -1 9 10 16 32 MAX"), """
            round(0, 9, 8, 0) true; honest(1) 72; !round(0, 9, 9, 0) false
            round(0, 9, 0, 0) true; honest(63) 0; !round(0, 9, -1, 0) false; round(0, 9, 1, 0) true; honest(63) 9
            """);
        Script.holds("Promise 7: a ROUND takes the place of the one before", Script.FURNISHED, """
            honest(2) 20; honest(8) 10; round(0, 10, 3, 0x131) true; honest(2) 20; honest(8) 10
            round(0, 5, 1, 2) true; honest(2) 0; honest(8) 0; honest(4) 5
            """);
        Script.holds("Promise 7, Terms: whether there are DOORS or not, one PLACE twice", """
            round(0, 7, 4, 0x1100) true; honest(1) 14; honest(2) 14; honest(3) 28
            """);
    }

    private static void roundRows() {
        Script.holds("Promise 7: a PLACE that can't be", Script.FURNISHED, """
            !round(0, 1, 1, 6) false; !round(0, 1, 1, 7) false; !round(0, 1, 1, 15) false
            !round(0, 1, 2, 0x60) false; !round(0, 1, 3, 0x600) false; !round(0, 1, 3, 0x161) false
            !round(0, 1, 8, 0x60000000) false; !round(0, 1, 8, 0x80000000) false; !round(0, 1, 8, -1) false
            !round(0, 1, 8, 0x00060000) false; !round(0, 0, 1, 6) false; !round(3, 0, 1, 6) false
            round(0, 1, 1, 5) true; honest(32) 1; round(0, 1, 8, 0x50000000) true; honest(32) 1; honest(1) 7
            """);
        Script.holds("Promise 7: what stands behind the n PLACES is no PLACE", Script.FURNISHED, """
            round(0, 1, 0, -1) true; honest(63) 0; round(0, 1, 1, 0xFFFFFFF5) true; honest(63) 1; honest(32) 1
            round(0, 1, 7, 0x65432105) true; honest(63) 7; honest(32) 2; !round(0, 1, 8, 0x65432105) false
            round(0, 1, 2, 0x654) true; honest(16) 1; honest(32) 1; honest(63) 2
            """);
        Script.holds("Promise 7: the first the lowest, and the eighth of nine PLACES", """
            house(9); round(0, 3, 1, 0x87654321) true; honest(2) 3; honest(511) 3
            round(0, 3, 8, 0x87654321) true; honest(256) 3; honest(1) 0; honest(511) 24
            round(0, 3, 8, 0x88888888) true; honest(256) 24; honest(255) 0
            !round(0, 3, 8, 0x98888888) false; !round(0, 3, 1, 9) false; !round(0, 3, 8, 0x88888889) false
            """);
        Script.holds("Promise 7: of two PLACES", """
            round(0, 1, 8, 0x11111111) true; honest(2) 8; !round(0, 1, 1, 2) false; !round(0, 1, 8, 0x21111111) false
            """);
        Script.holds("Promise 7: as many as can be", "house(9)",
            Script.each("round(_, 99, 8, 0x88888888) true", "0 1 2 3 4 5"), "honest(256) 4752; honest(511) 4752");
    }

    private static void look() {
        Script.holds("Promise 8: what 0 .. 7, NONE for another", Script.FURNISHED,
            Script.each("!look(_) NONE", "MIN -2 -1 8 9 16 MAX"), """
            look(0) 6; look(1) 8; look(2) 36; look(3) 0; look(4) 1; look(5) 1; look(6) 251; look(7) 2
            """);
        Script.holds("Promise 8: with one KNOWN", Script.KNOWN, """
            look(2) 36; look(3) 32; look(5) 0; !look(8) NONE; !look(-1) NONE
            lay(0) true; look(2) 0; look(3) 32   # no DECOY any more, but KNOWN
            """);
    }

    private static void lookAtTheMost() {
        Script.holds("Promise 8: all DECOYS, six touched, all KNOWN", """
            house(9); look(0) 9; bear(1); look(7) 1; lay(511); look(2) 511
            look(5) 0; touch(0); look(5) 1; touch(1); touch(2); touch(3); touch(4); touch(5); look(5) 6
            !touch(6) false; look(5) 6; tell() 6; look(5) 0; look(3) 63
            touch(6); touch(7); touch(8); tell() 3; look(3) 511; look(2) 511
            9* day(); look(4) 9; look(3) 511; day() 10; look(4) 10; look(3) 0; look(2) 511
            bear(9); look(7) 9
            """);
    }
}
