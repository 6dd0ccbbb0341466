import java.util.ArrayList;
import java.util.List;

/** The number of calls: an object answers as promised up to its 512th, and throws in none behind it. */
public final class CallsTest {
    private static final int[] NUMBERS = {Integer.MIN_VALUE, Integer.MIN_VALUE + 1, -512, -33, -32, -31, -9, -2, -1, 0, 1, 2,
        3, 4, 5, 6, 7, 8, 9, 10, 15, 16, 31, 32, 33, 63, 64, 99, 100, 127, 255, 256, 511, 512, 513, 1999, 2000, 2001, 65535,
        0x12345678, 0x88888888, Integer.MAX_VALUE - 1, Integer.MAX_VALUE};

    public static void main(String[] args) {
        lastCallHolds();
        longRunOfEachCall();
        anyNumbersInAnyState();
        Checks.end();
    }

    /** The 512th call and those before it; asked so often, nothing wears out. */
    private static void lastCallHolds() {
        for (String last : new String[] {"ways() 6", "left() 6", "tell() 0", "day() 2", "look(2) 36", "cover() 8",
            "lay(0) 1", "house(9) 1", "house(1) 0", "touch(2) 1", "best(1, 9, 1) 4", "move(9, 0, 0) 36", "tales(5) 1",
            "touch(1) 0", "bear(9) 1", "unlike(5) 1", "next() 1", "leftWay(5) 5", "way(5, 4) 4", "touched(63) 6",
            "honest(63) 30", "door(0, 1, true) 0", "is(2, 0) 0", "looks(0, 1) 1", "visible(0) 1", "round(0, 1, 1, 6) 0"}) {
            DecoyHouse x = new DecoyHouse();
            int made = makeFurnished(x);
            String[] asks = {"ways()", "best(9, 100, 0)", "move(100, 0, 0)", "left()", "next()", "cover()", "touch(1)"};
            for (; made < Script.MOST_CALLS - 1; made++) {
                Call.of(asks[made % asks.length]).on(x);
            }
            int close = last.indexOf(')') + 1;
            int got = Call.of(last.substring(0, close)).on(x);
            Checks.due("What it is: the 512th call, " + last, got, Call.number(last.substring(close).trim()));
        }
    }

    /** The furnished house with no TALE begun: how many calls it took. */
    private static int makeFurnished(DecoyHouse x) {
        String[] calls = {"house(6)", "door(0, 1, true)", "door(0, 2, true)", "door(1, 3, true)", "door(2, 3, true)",
            "door(1, 2, true)", "door(3, 4, true)", "door(3, 5, true)", "door(5, 4, true)", "is(0, 1)", "is(4, 2)",
            "round(0, 10, 3, 0x131)", "looks(5, 1)", "lay(36)", "day()", "touch(5)", "tell()"};
        for (String call : calls) {
            Call.of(call).on(x);
        }
        return calls.length;
    }

    private static void longRunOfEachCall() {
        DecoyHouse x = new DecoyHouse();
        for (int i = 1; i <= 511; i++) {
            Checks.due("Promise 24: DAY " + i, x.day(), i);
        }
        Checks.due("Promise 24: DAY 512", x.day(), 512);
        DecoyHouse y = new DecoyHouse();
        y.lay(1);
        for (int i = 0; i < 255; i++) {
            Checks.yes("Promise 17: touched in each TALE", y.touch(0));
            y.tell();
        }
    }

    /** Every call with every number, in houses of all kinds, before the 512th call and long behind it. */
    private static void anyNumbersInAnyState() {
        List<DecoyHouse> houses = new ArrayList<>();
        houses.add(new DecoyHouse());
        houses.add(Checks.furnished());
        DecoyHouse full = new DecoyHouse();
        full.house(9);
        Checks.allDoors(full, 9);
        full.is(0, 1);
        full.is(8, 2);
        houses.add(full);
        DecoyHouse laid = new DecoyHouse();
        laid.house(9);
        laid.lay(511);
        houses.add(laid);
        for (DecoyHouse x : houses) {
            for (int a : NUMBERS) {
                for (int b : NUMBERS) {
                    callAll(x, a, b);
                }
            }
            Checks.yes("LANGUAGE.md 7: none threw", x.house(2));
        }
    }

    private static void callAll(DecoyHouse x, int a, int b) {
        x.door(a, b, (a & 1) == 0);
        x.is(a, b);
        x.looks(a, b);
        x.visible(a);
        x.round(a, b, 8, 0x11111111);
        x.round(1, 1, a, b);
        x.look(a);
        x.ways();
        x.way(a, b);
        x.touched(a);
        x.honest(a);
        x.best(a, b, 1);
        x.cover();
        x.lay(a & b);
        x.unlike(a);
        x.touch(a);
        x.touch(b);
        x.left();
        x.leftWay(a);
        x.next();
        x.tales(a);
        x.move(a, b, 0);
        x.bear(b);
        if ((a ^ b) % 3 == 0) {
            x.tell();
        }
        x.day();
        x.best(b, a, a);
        x.house(a < 2 || a > 9 ? a : 10);
    }
}
