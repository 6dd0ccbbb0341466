/** Promises 9 to 12: WAYS, what TOUCHES them, and HONEST touches. */
public final class WaysTest {
    private static final int NONE = DecoyHouse.NONE;
    private static final int LEAST = Integer.MIN_VALUE;
    private static final int MOST = Integer.MAX_VALUE;

    public static void main(String[] args) {
        ways();
        longWays();
        tooManyWays();
        theLimit();
        way();
        touched();
        honest();
        Checks.end();
    }

    /** GATE 0, JEWEL at the end, all DOORS, n PLACES. */
    private static DecoyHouse full(int n) {
        DecoyHouse x = new DecoyHouse();
        x.house(n);
        Checks.allDoors(x, n);
        x.is(0, 1);
        x.is(n - 1, 2);
        return x;
    }

    private static void ways() {
        DecoyHouse x = full(2);
        Checks.due("9: the least", x.ways(), 1);
        x.is(0, 2);
        Checks.due("9: no GATE", x.ways(), 0);
        x.is(0, 1);
        x.is(1, 1);
        Checks.due("9: no JEWEL", x.ways(), 0);
        x = full(4);
        Checks.due("9: 03 013 023 0123 0213", x.ways(), 5);
        x.is(1, 2);
        Checks.due("9: 01 03 021 023: no other JEWEL on a WAY", x.ways(), 4);
        x.is(1, 1);
        Checks.due("9: a WAY goes over other GATES", x.ways(), 10);
        x.door(2, 3, false);
        Checks.due("9: a DOOR less", x.ways(), 6);
    }

    private static void longWays() {
        DecoyHouse x = new DecoyHouse();
        x.house(9);
        x.is(0, 1);
        Checks.doors(x, "01 12 23 34 45 56");
        x.is(5, 2);
        Checks.due("9: six PLACES", x.ways(), 1);
        Checks.due("10: the sixth", x.way(0, 5), 5);
        x.is(5, 0);
        x.is(6, 2);
        Checks.due("9: seven PLACES are too many", x.ways(), 0);
        Checks.due("9: 1 + 7 + 42 + 210 + 840", full(9).ways(), 1100);
    }

    private static void tooManyWays() {
        DecoyHouse x = full(9);
        x.round(0, 5, 1, 1);
        x.lay(8);
        x.touch(3);
        x.is(1, 1);
        String[] calls = {"ways", "way", "touched", "best", "cover", "left", "leftWay", "next", "move"};
        int[] answers = {x.ways(), x.way(0, 0), x.touched(0), x.best(0, 0, 1), x.cover(),
            x.left(), x.leftWay(0), x.next(), x.move(MOST, 0, 0)};
        for (int i = 0; i < calls.length; i++) {
            Checks.due("9: 2200 WAYS, " + calls[i], answers[i], NONE);
        }
        Checks.due("12: HONEST touches do not hang on WAYS", x.honest(2), 5);
        Checks.due("16: nor does UNLIKE", x.unlike(3), 0);
        Checks.yes("15: nor does lay", x.lay(4));
        Checks.yes("17: nor does touch", x.touch(2));
        Checks.due("21: nor does tell", x.tell(), 0);
        Checks.due("23: nor do tales", x.tales(2), 1);
        x.is(1, 0);
        Checks.due("9: they are told again", x.ways(), 1100);
        Checks.due("18: and LEFT", x.left(), 1100);
    }

    private static void theLimit() {
        DecoyHouse x = full(9);
        for (int p = 1; p < 4; p++) {
            x.is(p, 1);
        }
        x.is(6, 2);
        x.is(7, 2);
        x.door(0, 7, false);
        x.door(0, 4, false);
        Checks.due("9: 2000 WAYS are told", x.ways(), 2000);
        Checks.due("10: the last of them", x.way(1999, 1), 8);
        Checks.due("10: none behind it", x.way(2000, 0), NONE);
        Checks.due("11: all of them", x.touched(511), 2000);
        Checks.due("18: all are LEFT", x.left(), 2000);
        Checks.due("19: the last that is LEFT", x.leftWay(1999), 1999);
        x = full(9);
        x.is(1, 1);
        x.is(2, 1);
        x.is(7, 2);
        x.door(0, 5, false);
        x.door(5, 7, false);
        x.door(2, 5, false);
        x.door(6, 3, false);
        Checks.due("9: 2001 WAYS are not", x.ways(), NONE);
        Checks.due("10: nor is the first of them", x.way(0, 0), NONE);
    }

    private static void way() {
        DecoyHouse x = full(4);
        int[][] want = {{0, 1, 2, 3}, {0, 1, 3, NONE}, {0, 2, 1, 3}, {0, 2, 3, NONE}, {0, 3, NONE, NONE}};
        for (int i = 0; i < want.length; i++) {
            for (int j = 0; j < 4; j++) {
                Checks.due("10: way(" + i + ", " + j + ")", x.way(i, j), want[i][j]);
            }
        }
        for (int wrong : new int[] {LEAST, -1, 5, 6, 8, MOST}) {
            Checks.due("10: no such WAY", x.way(wrong, 0), NONE);
            Checks.due("10: no such PLACE on it", x.way(0, wrong), NONE);
        }
        x.is(2, 1);
        Checks.due("10: those from GATE 2 come last", x.way(9, 0), 2);
        Checks.due("10: 2 0 1 3 is the first of them", x.way(5, 1), 0);
        x = full(9);
        Checks.due("10: the last WAY", x.way(1099, 1), 8);
        Checks.due("10: none behind it", x.way(1100, 0), NONE);
    }

    private static void touched() {
        DecoyHouse x = full(4);
        int[] want = {0, 5, 3, 5, 3, 5, 4, 5, 5, 5, 5, 5, 5, 5, 5, 5};
        for (int set = 0; set < 16; set++) {
            Checks.due("11: touched(" + set + ")", x.touched(set), want[set]);
        }
        for (int wrong : new int[] {LEAST, -1, 16, 17, 512, MOST}) {
            Checks.due("11: no set", x.touched(wrong), NONE);
        }
        x.is(0, 0);
        x.is(1, 1);
        Checks.due("11: of 1023 103 1203 123 13, PLACE 0", x.touched(1), 3);
        Checks.due("11: PLACE 2", x.touched(4), 3);
        Checks.due("11: PLACES 0 and 2", x.touched(5), 4);
        x = full(9);
        Checks.due("11: all PLACES", x.touched(511), 1100);
        Checks.due("11: no more PLACES", x.touched(512), NONE);
        Checks.due("11: 1100 less 1 + 6 + 30 + 120 + 360", x.touched(2), 583);
    }

    private static void honest() {
        DecoyHouse x = full(4);
        x.round(0, 7, 4, 0x1210);
        x.round(5, 3, 2, 0x11);
        int[] at = {7, 20, 7, 0};
        for (int set = 0; set < 16; set++) {
            int sum = 0;
            for (int p = 0; p < 4; p++) {
                sum += (set >> p & 1) * at[p];
            }
            Checks.due("12: honest(" + set + ")", x.honest(set), sum);
        }
        for (int wrong : new int[] {LEAST, -1, 16, 512, MOST}) {
            Checks.due("12: no set", x.honest(wrong), NONE);
        }
    }
}
