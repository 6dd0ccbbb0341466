/** Promises 1 to 8: the house, and what is set and looked at in it. */
public final class PlacesTest {
    private static final int LEAST = Integer.MIN_VALUE;
    private static final int MOST = Integer.MAX_VALUE;

    public static void main(String[] args) {
        newObject();
        house();
        door();
        is();
        looks();
        visible();
        round();
        look();
        Checks.end();
    }

    private static void newObject() {
        DecoyHouse x = new DecoyHouse();
        int[] first = {2, 0, 0, 0, 0, 0, 255, 3};
        for (int what = 0; what < first.length; what++) {
            Checks.due("1: look(" + what + ") of a new object", x.look(what), first[what]);
        }
        Checks.due("1: honest of all", x.honest(3), 0);
        Checks.due("1: ways", x.ways(), 0);
        Checks.yes("1: all is PLAIN", x.lay(3));
        Checks.due("1: no true PLACE", x.unlike(0), DecoyHouse.NONE);
        Checks.yes("1: one DECOY", x.lay(1));
        Checks.due("1: LOOKS are alike", x.unlike(0), 0);
    }

    private static void house() {
        String fresh = Checks.state(new DecoyHouse());
        DecoyHouse x = Checks.furnished();
        Checks.taleOf(x, 5);
        Checks.due("2: one is KNOWN before", x.look(3), 32);
        x.touch(2);
        for (int n : new int[] {LEAST, -1, 0, 1, 10, MOST}) {
            Checks.refused(x, "2: house(" + n + ")", () -> x.house(n));
        }
        Checks.yes("2: house(2)", x.house(2));
        Checks.same("2: all is anew", Checks.state(x), fresh);
        Checks.yes("2: house(6) again", x.house(6));
        DecoyHouse other = new DecoyHouse();
        other.house(6);
        Checks.same("2: nothing of the old house comes back", Checks.state(x), Checks.state(other));
        Checks.yes("2: all PLACES are PLAIN again", x.lay(63));
        x.lay(4);
        Checks.due("2: LOOKS are anew", x.unlike(2), 0);
        x.round(0, 1, 1, 2);
        Checks.due("2: ROUNDS are anew: PLACE 1", x.honest(2), 0);
        Checks.due("2: ROUNDS are anew: PLACE 2", x.honest(4), 1);
        Checks.due("2: the TALE is anew", x.look(5), 0);
        for (int n = 2; n <= 9; n++) {
            Checks.yes("2: house(" + n + ")", x.house(n));
            Checks.due("2: look(0)", x.look(0), n);
        }
        Checks.yes("2: house as it was", x.house(9));
    }

    private static void door() {
        DecoyHouse x = Checks.furnished();
        int[][] wrong = {{-1, 1}, {1, -1}, {6, 1}, {1, 6}, {0, 0}, {5, 5}, {9, 9}, {LEAST, 0}, {0, MOST}, {32, 1}};
        for (int[] pair : wrong) {
            Checks.refused(x, "3: a door that can't be", () -> x.door(pair[0], pair[1], true));
            Checks.refused(x, "3: no door that can't be", () -> x.door(pair[0], pair[1], false));
        }
        Checks.refused(x, "3: it was so", () -> x.door(0, 1, true));
        Checks.refused(x, "3: it was not", () -> x.door(1, 0, false));
        Checks.due("3: WAYS before", x.ways(), 6);
        Checks.yes("3: the other direction", x.door(1, 0, true));
        Checks.due("3: nine", x.look(1), 9);
        Checks.due("3: each direction by itself", x.ways(), 6);
        Checks.yes("3: away", x.door(0, 1, false));
        Checks.due("3: eight", x.look(1), 8);
        Checks.due("3: WAYS follow", x.ways(), 2);
        Checks.yes("3: back", x.door(0, 1, true));
        Checks.due("3: WAYS are back", x.ways(), 6);
        Checks.due("3: the TALE goes on", x.look(5), 1);
    }

    private static void is() {
        DecoyHouse x = Checks.furnished();
        for (int p : new int[] {LEAST, -1, 6, 9, 32, MOST}) {
            Checks.refused(x, "4: is(" + p + ", 1)", () -> x.is(p, 1));
        }
        for (int kind : new int[] {LEAST, -1, 3, MOST}) {
            Checks.refused(x, "4: is(1, " + kind + ")", () -> x.is(1, kind));
        }
        for (int kind = 0; kind <= 2; kind++) {
            int one = kind;
            Checks.refused(x, "4: a DECOY", () -> x.is(2, one));
        }
        Checks.yes("4: what it is already", x.is(0, 1));
        Checks.due("4: WAYS as before", x.ways(), 6);
        Checks.yes("4: 1 a GATE", x.is(1, 1));
        Checks.due("4: WAYS from 0 and from 1", x.ways(), 10);
        Checks.yes("4: 1 a JEWEL, no GATE any more", x.is(1, 2));
        Checks.due("4: 01, 0234, 02354", x.ways(), 3);
        Checks.no("4: a JEWEL bears no DECOY", x.lay(2));
        Checks.yes("4: 1 PLAIN again", x.is(1, 0));
        Checks.due("4: WAYS as at first", x.ways(), 6);
        Checks.yes("4: no JEWEL", x.is(4, 0));
        Checks.due("4: no WAYS", x.ways(), 0);
        Checks.yes("4: no GATE", x.is(0, 0));
        Checks.yes("4: all are PLAIN now", x.lay(63));
    }

    private static void looks() {
        DecoyHouse x = Checks.furnished();
        for (int p : new int[] {LEAST, -1, 6, 9, MOST}) {
            Checks.refused(x, "5: looks(" + p + ", 1)", () -> x.looks(p, 1));
        }
        for (int marks : new int[] {LEAST, -1, 256, MOST}) {
            Checks.refused(x, "5: looks(2, " + marks + ")", () -> x.looks(2, marks));
        }
        x.visible(255);
        for (int p = 0; p < 6; p++) {
            Checks.yes("5: looks(p, 0)", x.looks(p, 0));
        }
        Checks.yes("5: a DECOY, too", x.looks(5, 255));
        Checks.due("5: all marks differ", x.unlike(5), 8);
        Checks.yes("5: another", x.looks(5, 128));
        Checks.due("5: one differs", x.unlike(5), 1);
        Checks.yes("5: what it was", x.looks(5, 128));
        Checks.yes("5: a GATE", x.looks(0, 129));
        Checks.yes("5: and a PLAIN one", x.looks(1, 128));
        Checks.due("5: none differs", x.unlike(5), 0);
    }

    private static void visible() {
        DecoyHouse x = Checks.furnished();
        for (int marks : new int[] {LEAST, -1, 256, MOST}) {
            Checks.refused(x, "6: visible(" + marks + ")", () -> x.visible(marks));
        }
        x.looks(5, 0b10110000);
        for (int p : new int[] {0, 1, 3, 4}) {
            x.looks(p, 0b00000001);
        }
        int[][] rows = {{255, 4}, {0, 0}, {1, 1}, {0b10010000, 2}, {0b01001110, 0}, {255, 4}};
        for (int[] row : rows) {
            Checks.yes("6: visible(" + row[0] + ")", x.visible(row[0]));
            Checks.due("6: look(6)", x.look(6), row[0]);
            Checks.due("6: unlike with " + row[0], x.unlike(5), row[1]);
        }
    }

    private static void round() {
        DecoyHouse x = Checks.furnished();
        int[][] wrong = {
            {-1, 1, 1, 0}, {6, 1, 1, 0}, {LEAST, 1, 1, 0}, {MOST, 1, 1, 0},
            {1, -1, 1, 0}, {1, 100, 1, 0}, {1, LEAST, 1, 0}, {1, MOST, 1, 0},
            {1, 1, -1, 0}, {1, 1, 9, 0}, {1, 1, LEAST, 0}, {1, 1, MOST, 0},
            {1, 1, 1, 6}, {1, 1, 1, 15}, {1, 1, 3, 0x600}, {0, 1, 8, 0x60000000}, {0, 1, 8, -1}};
        for (int[] w : wrong) {
            Checks.refused(x, "7: a round that can't be", () -> x.round(w[0], w[1], w[2], w[3]));
        }
        Checks.due("7: 1 3 1 ten times", x.honest(2 + 8), 30);
        Checks.yes("7: what is behind the row is free", x.round(1, 99, 2, 0xFFFFFF52));
        Checks.due("7: 2 and 5", x.honest(4 + 32), 198);
        Checks.yes("7: a round of none", x.round(1, 99, 0, -1));
        Checks.due("7: it is another one now", x.honest(4 + 32), 0);
        Checks.yes("7: never done", x.round(0, 0, 3, 0x131));
        Checks.due("7: no touches", x.honest(63), 0);
        Checks.yes("7: the longest", x.round(5, 99, 8, 0x55555555));
        Checks.due("7: eight times 99", x.honest(32), 792);
        Checks.yes("7: without DOORS", x.round(5, 1, 4, 0x4040));
        Checks.due("7: GATE and JEWEL", x.honest(17), 4);
        x.house(9);
        Checks.yes("7: PLACE 8 at the end", x.round(0, 2, 8, 0x87654321));
        Checks.due("7: PLACE 8", x.honest(256), 2);
        Checks.due("7: not PLACE 0", x.honest(1), 0);
        for (int r = 0; r < 6; r++) {
            Checks.yes("7: each round", x.round(r, 99, 8, 0x88888888));
        }
        Checks.due("7: all rounds", x.honest(511), 6 * 8 * 99);
    }

    private static void look() {
        DecoyHouse x = Checks.furnished();
        int[] now = {6, 8, 36, 0, 1, 1, 251, 2};
        for (int what = 0; what < now.length; what++) {
            Checks.due("8: look(" + what + ")", x.look(what), now[what]);
        }
        Checks.taleOf(x, 5);
        Checks.due("8: 5 is KNOWN", x.look(3), 32);
        Checks.due("8: the TALE is anew", x.look(5), 0);
        for (int what : new int[] {LEAST, -1, 8, 9, MOST}) {
            Checks.due("8: look(" + what + ")", x.look(what), DecoyHouse.NONE);
        }
        x.house(9);
        Checks.allDoors(x, 9);
        Checks.due("8: the most DOORS", x.look(1), 72);
    }
}
