/** Promises 13, 14 and 25: BEST, COVER and MOVE. */
public final class SetsTest {
    private static final int NONE = DecoyHouse.NONE;
    private static final int LEAST = Integer.MIN_VALUE;
    private static final int MOST = Integer.MAX_VALUE;

    public static void main(String[] args) {
        best();
        bestOfEquals();
        bestAndKnown();
        cover();
        coverOfEquals();
        move();
        moveOfEquals();
        moveAndKnown();
        Checks.end();
    }

    /** WAYS 015 025 035 045, and 1 to 4 one another's equals. */
    private static DecoyHouse fan() {
        DecoyHouse x = new DecoyHouse();
        x.house(6);
        x.is(0, 1);
        x.is(5, 2);
        Checks.doors(x, "01 02 03 04 15 25 35 45");
        return x;
    }

    private static void dueBest(DecoyHouse x, int k, int b, int... want) {
        for (int what = 0; what < 3; what++) {
            Checks.due("13: best(" + k + ", " + b + ", " + what + ")", x.best(k, b, what), want[what]);
        }
    }

    private static void dueMove(DecoyHouse x, int b, int w, int... want) {
        for (int what = 0; what < 3; what++) {
            Checks.due("25: move(" + b + ", " + w + ", " + what + ")", x.move(b, w, what), want[what]);
        }
    }

    private static void best() {
        DecoyHouse x = Checks.furnished();
        dueBest(x, 1, 100, 6, 8, 10);
        dueBest(x, 1, 10, 6, 8, 10);
        dueBest(x, 1, 9, 4, 4, 0);
        dueBest(x, 2, 9, 5, 36, 0);
        dueBest(x, 9, MOST, 6, 8, 10);
        dueBest(x, 0, 0, 0, 0, 0);
        for (int wrong : new int[] {LEAST, -1, 10, MOST}) {
            Checks.due("13: no such k", x.best(wrong, 9, 0), NONE);
        }
        Checks.due("13: b below 0", x.best(1, -1, 0), NONE);
        Checks.due("13: b far below 0", x.best(1, LEAST, 0), NONE);
        for (int wrong : new int[] {LEAST, -1, 3, MOST}) {
            Checks.due("13: no such what", x.best(1, 9, wrong), NONE);
        }
        Checks.due("13: best only tells", x.look(2), 36);
        x.is(3, 1);
        Checks.due("13: a GATE bears none", x.best(1, 100, 1), 4);
    }

    private static void bestOfEquals() {
        DecoyHouse x = fan();
        dueBest(x, 1, 0, 1, 2, 0);
        dueBest(x, 2, 0, 2, 6, 0);
        dueBest(x, 4, 0, 4, 30, 0);
        x.round(0, 3, 2, 0x21);
        dueBest(x, 2, 9, 2, 24, 0);
        dueBest(x, 1, 9, 1, 8, 0);
        dueBest(x, 3, 9, 3, 26, 3);
        dueBest(x, 4, 5, 3, 26, 3);
        dueBest(x, 4, 6, 4, 30, 6);
        Checks.doors(x, "14");
        dueBest(x, 1, 9, 2, 16, 0);
        x.round(0, 0, 0, 0);
        dueBest(x, 1, 9, 2, 2, 0);
        x.round(0, 1, 1, 1);
        dueBest(x, 1, 0, 2, 16, 0);
        x.house(6);
        dueBest(x, 9, 9, 0, 0, 0);
    }

    private static void bestAndKnown() {
        DecoyHouse x = fan();
        x.bear(1);
        x.lay(2);
        Checks.taleOf(x, 1);
        dueBest(x, 1, 0, 1, 4, 0);
        dueBest(x, 9, 0, 3, 28, 0);
        Checks.due("14: KNOWN ones do not cover", x.cover(), NONE);
        Checks.days(x, 9);
        dueBest(x, 1, 0, 1, 4, 0);
        x.day();
        dueBest(x, 1, 0, 1, 2, 0);
        Checks.due("14: it covers again", x.cover(), 30);
    }

    private static void cover() {
        Checks.due("14: no WAYS", new DecoyHouse().cover(), 0);
        DecoyHouse x = fan();
        Checks.due("14: all four", x.cover(), 30);
        x.round(0, 99, 4, 0x4321);
        Checks.due("14: whatever is HONEST", x.cover(), 30);
        x.door(0, 5, true);
        Checks.due("14: a WAY without PLAIN PLACES", x.cover(), NONE);
        x.door(0, 5, false);
        x.is(3, 1);
        Checks.due("14: a GATE bears none", x.cover(), NONE);
        Checks.due("14: only told", x.look(2), 0);
    }

    private static void coverOfEquals() {
        DecoyHouse x = new DecoyHouse();
        x.house(6);
        x.is(0, 1);
        x.is(5, 2);
        Checks.doors(x, "01 12 23 34 45");
        Checks.due("14: the least number", x.cover(), 2);
        x.round(0, 1, 3, 0x321);
        Checks.due("14: the fewest HONEST touches", x.cover(), 16);
        x.door(3, 5, true);
        Checks.due("14: one PLACE before few HONEST touches", x.cover(), 2);
        x.round(1, 1, 1, 1);
        Checks.due("14: the least of the rest", x.cover(), 4);
    }

    private static void move() {
        DecoyHouse x = Checks.furnished();
        dueMove(x, 100, 0, 36, 0, 5);
        dueMove(x, 0, 5, 36, 0, 5);
        dueMove(x, 100, 6, 6, 1, 6);
        dueMove(x, 20, 6, 6, 1, 6);
        dueMove(x, 19, 6, 12, 1, 6);
        dueMove(x, 9, 6, NONE, NONE, NONE);
        dueMove(x, 100, 7, NONE, NONE, NONE);
        dueMove(x, -1, 0, NONE, NONE, NONE);
        dueMove(x, 0, -1, NONE, NONE, NONE);
        dueMove(x, LEAST, LEAST, NONE, NONE, NONE);
        dueMove(x, MOST, MOST, NONE, NONE, NONE);
        for (int wrong : new int[] {LEAST, -1, 3, MOST}) {
            Checks.due("25: no such what", x.move(100, 0, wrong), NONE);
        }
        Checks.due("25: nothing is moved", x.look(2), 36);
        Checks.due("25: the TALE goes on", x.look(5), 1);
        x.lay(0);
        dueMove(x, 0, 0, 0, 0, 0);
        dueMove(x, 0, 1, NONE, NONE, NONE);
    }

    private static void moveOfEquals() {
        DecoyHouse x = fan();
        x.lay(16 + 8);
        dueMove(x, 0, 0, 24, 0, 2);
        x.round(0, 1, 1, 4);
        dueMove(x, 0, 0, 10, 1, 2);
        dueMove(x, 1, 0, 24, 0, 2);
        Checks.doors(x, "21");
        dueMove(x, 0, 0, 10, 1, 3);
        x.door(3, 2, true);
        x.door(1, 5, false);
        dueMove(x, 0, 0, 12, 1, 3);
        dueMove(x, 0, 3, 12, 1, 3);
        dueMove(x, 1, 3, 24, 0, 3);
        dueMove(x, 1, 4, NONE, NONE, NONE);
    }

    private static void moveAndKnown() {
        DecoyHouse x = fan();
        x.bear(1);
        x.lay(6);
        Checks.taleOf(x, 1);
        dueMove(x, 0, 0, 12, 1, 2);
        Checks.taleOf(x, 2);
        dueMove(x, 0, 0, 24, 2, 2);
        x.house(3);
        x.bear(1);
        x.lay(7);
        Checks.taleOf(x, 0);
        dueMove(x, 0, 0, NONE, NONE, NONE);
        Checks.days(x, 10);
        dueMove(x, 0, 0, 7, 0, 0);
    }
}
