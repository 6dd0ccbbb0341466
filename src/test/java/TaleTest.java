/** Promises 15 to 24: DECOYS, TALES, what is LEFT, and what is KNOWN. */
public final class TaleTest {
    private static final int NONE = DecoyHouse.NONE;
    private static final int LEAST = Integer.MIN_VALUE;
    private static final int MOST = Integer.MAX_VALUE;

    public static void main(String[] args) {
        lay();
        layAndKnown();
        unlike();
        touch();
        left();
        leftOnChange();
        leftWay();
        next();
        tell();
        bear();
        tales();
        day();
        Checks.end();
    }

    private static void lay() {
        DecoyHouse x = Checks.furnished();
        for (int set : new int[] {LEAST, -1, 1, 16, 17, 37, 64, 100, 512, MOST}) {
            Checks.refused(x, "15: lay(" + set + ")", () -> x.lay(set));
        }
        Checks.due("15: a TALE goes on", x.look(5), 1);
        Checks.yes("15: the same set", x.lay(36));
        Checks.due("15: the TALE begins anew", x.look(5), 0);
        Checks.due("15: it was not told", x.tales(2), 0);
        Checks.due("15: what was told stays", x.tales(5), 1);
        Checks.yes("15: all PLAIN ones", x.lay(46));
        Checks.due("15: look(2)", x.look(2), 46);
        Checks.yes("15: none", x.lay(0));
        Checks.due("15: look(2) of none", x.look(2), 0);
        Checks.yes("15: a GATE may be where a DECOY was", x.is(2, 1));
        Checks.no("15: then it bears none", x.lay(4));
    }

    private static void layAndKnown() {
        DecoyHouse x = Checks.furnished();
        Checks.due("15: 5 becomes KNOWN", Checks.taleOf(x, 5), 1);
        Checks.due("15: a DECOY still", x.look(2), 36);
        Checks.refused(x, "15: KNOWN, even where it is laid", () -> x.lay(36));
        Checks.refused(x, "15: KNOWN alone", () -> x.lay(32));
        Checks.yes("15: without it", x.lay(4));
        Checks.due("15: KNOWN still", x.look(3), 32);
        Checks.yes("15: a KNOWN one that is no DECOY may be a JEWEL", x.is(5, 2));
        Checks.due("15: KNOWN all the same", x.look(3), 32);
        x.is(5, 0);
        Checks.days(x, 9);
        Checks.refused(x, "15: for 10 DAYS", () -> x.lay(32));
        x.day();
        Checks.yes("15: they have gone by", x.lay(32));
    }

    private static void unlike() {
        DecoyHouse x = new DecoyHouse();
        x.house(4);
        int[] marks = {0b11110000, 0b00001111, 0b11100001, 0b11100011};
        for (int p = 0; p < 4; p++) {
            x.looks(p, marks[p]);
        }
        Checks.due("16: no DECOY", x.unlike(0), NONE);
        x.lay(8);
        Checks.due("16: 2 is near", x.unlike(3), 1);
        x.lay(12);
        Checks.due("16: DECOYS do not count", x.unlike(3), 3);
        Checks.due("16: the other one", x.unlike(2), 2);
        Checks.due("16: a true one", x.unlike(0), NONE);
        x.is(0, 1);
        x.is(1, 2);
        Checks.due("16: GATES and JEWELS are true ones", x.unlike(2), 2);
        x.visible(0b00001111);
        Checks.due("16: VISIBLE marks alone", x.unlike(2), 1);
        x.visible(0);
        Checks.due("16: none VISIBLE", x.unlike(2), 0);
        for (int wrong : new int[] {LEAST, -1, 4, 9, 34, MOST}) {
            Checks.due("16: no such PLACE", x.unlike(wrong), NONE);
        }
        x.is(0, 0);
        x.is(1, 0);
        x.lay(15);
        Checks.due("16: no true one", x.unlike(0), NONE);
    }

    private static void touch() {
        DecoyHouse x = Checks.furnished();
        for (int wrong : new int[] {LEAST, -1, 0, 1, 3, 4, 6, 9, 34, MOST}) {
            Checks.refused(x, "17: no DECOY", () -> x.touch(wrong));
        }
        Checks.refused(x, "17: touched already", () -> x.touch(2));
        Checks.yes("17: another one", x.touch(5));
        Checks.due("17: two", x.look(5), 2);
        Checks.refused(x, "17: the first one again", () -> x.touch(2));
        x.tell();
        Checks.yes("17: anew in the next TALE, even a KNOWN one", x.touch(5));
        DecoyHouse y = new DecoyHouse();
        y.house(9);
        y.lay(511);
        for (int p = 8; p > 2; p--) {
            Checks.yes("17: up to six", y.touch(p));
        }
        Checks.refused(y, "17: there were 6", () -> y.touch(2));
        Checks.due("17: six", y.look(5), 6);
    }

    private static void dueLeft(DecoyHouse x, int next, int... ways) {
        Checks.due("18: left", x.left(), ways.length);
        for (int i = 0; i < ways.length; i++) {
            Checks.due("19: leftWay(" + i + ")", x.leftWay(i), ways[i]);
        }
        Checks.due("19: none behind", x.leftWay(ways.length), NONE);
        Checks.due("20: next", x.next(), next);
    }

    /** The furnished house, its six WAYS, with other DECOYS. */
    private static DecoyHouse house(int decoys) {
        DecoyHouse x = Checks.furnished();
        x.lay(decoys);
        return x;
    }

    private static void left() {
        // 0: 01234, 1: 012354, 2: 0134, 3: 01354, 4: 0234, 5: 02354
        DecoyHouse x = house(36);
        dueLeft(x, 1, 0, 1, 2, 3, 4, 5);
        x.touch(2);
        dueLeft(x, 8, 0, 1, 4, 5);
        x.touch(5);
        dueLeft(x, 16, 1, 5);
        x.tell();
        x.touch(5);
        dueLeft(x, 16, 3);
        x.touch(2);
        dueLeft(x, 0);
        x = house(46);
        x.touch(3);
        dueLeft(x, 0);
        x.lay(46);
        x.touch(1);
        dueLeft(x, 12, 0, 1, 2, 3);
        x.touch(3);
        dueLeft(x, 48, 2, 3);
        x.touch(5);
        dueLeft(x, 16, 3);
        x = house(10);
        x.touch(3);
        dueLeft(x, 48, 4, 5);
        x = house(0);
        dueLeft(x, 1, 0, 1, 2, 3, 4, 5);
        dueLeft(new DecoyHouse(), 0);
    }

    private static void leftOnChange() {
        DecoyHouse x = house(36);
        x.touch(2);
        x.door(2, 4, true);
        // 0: 01234, 1: 012354, 2: 0124, 3: 0134, 4: 01354, 5: 0234, 6: 02354, 7: 024
        dueLeft(x, 24, 0, 1, 2, 5, 6, 7);
        x.door(0, 2, false);
        dueLeft(x, 24, 0, 1, 2);
        x.is(0, 0);
        x.is(1, 1);
        // 0: 1234, 1: 12354, 2: 124, 3: 134, 4: 1354
        dueLeft(x, 24, 0, 1, 2);
        x.tell();
        dueLeft(x, 2, 0, 1, 2, 3, 4);
    }

    private static void leftWay() {
        DecoyHouse x = house(36);
        x.touch(2);
        for (int wrong : new int[] {LEAST, -1, 4, 5, 6, MOST}) {
            Checks.due("19: leftWay(" + wrong + ")", x.leftWay(wrong), NONE);
        }
    }

    private static void next() {
        DecoyHouse x = house(36);
        x.is(1, 1);
        Checks.due("20: the first PLACES of all that are LEFT", x.next(), 3);
        x.touch(2);
        Checks.due("20: behind the last touched one", x.next(), 8);
        x.door(2, 1, true);
        Checks.due("20: also to another GATE", x.next(), 10);
        x.house(3);
        x.is(0, 1);
        x.is(2, 2);
        Checks.doors(x, "01 12");
        Checks.due("20: of the only WAY", x.next(), 1);
        x.lay(2);
        x.touch(1);
        Checks.due("20: behind it on the only WAY", x.next(), 4);
    }

    private static void tell() {
        DecoyHouse x = new DecoyHouse();
        x.house(9);
        x.lay(7);
        Checks.due("21: an empty TALE", x.tell(), 0);
        Checks.due("21: 1 of 3", Checks.taleOf(x, 0, 1), 0);
        Checks.due("21: 2 of 3", Checks.taleOf(x, 1, 0), 0);
        Checks.due("21: none KNOWN yet", x.look(3), 0);
        x.touch(2);
        x.touch(0);
        x.touch(1);
        Checks.due("21: not told yet", x.tales(0), 2);
        Checks.due("21: two of three", x.tell(), 2);
        Checks.due("21: KNOWN", x.look(3), 3);
        Checks.due("21: DECOYS still", x.look(2), 7);
        Checks.due("21: the TALE is anew", x.look(5), 0);
        Checks.due("21: counted anew", x.tales(0), 0);
        Checks.due("21: told once", x.tales(2), 1);
        Checks.due("21: told only once", x.tell(), 0);
        Checks.days(x, 4);
        Checks.due("21: KNOWN ones are told of, too", Checks.taleOf(x, 0), 0);
        Checks.due("21: tales of a KNOWN one", x.tales(0), 1);
        Checks.taleOf(x, 0);
        Checks.due("21: it is KNOWN for 10 DAYS more", Checks.taleOf(x, 0), 1);
        Checks.due("21: its tales", x.tales(0), 0);
        Checks.days(x, 6);
        Checks.due("21: 1 is forgotten", x.look(3), 1);
        Checks.days(x, 3);
        Checks.due("21: 0 is not yet", x.look(3), 1);
        x.day();
        Checks.due("21: none KNOWN", x.look(3), 0);
    }

    private static void bear() {
        DecoyHouse x = Checks.furnished();
        for (int wrong : new int[] {LEAST, -1, 0, 10, MOST}) {
            Checks.refused(x, "22: bear(" + wrong + ")", () -> x.bear(wrong));
        }
        x.tell();
        for (int n = 1; n <= 9; n++) {
            Checks.yes("22: bear(" + n + ")", x.bear(n));
            Checks.due("22: look(7)", x.look(7), n);
            Checks.due("22: none KNOWN by that", x.look(3), 0);
        }
        for (int i = 0; i < 7; i++) {
            Checks.due("22: 9 bear eight", Checks.taleOf(x, 5), 0);
        }
        Checks.due("22: eight", x.tales(5), 8);
        Checks.yes("22: fewer", x.bear(4));
        Checks.due("22: not KNOWN at once", x.look(3), 0);
        Checks.due("22: nor by another's TALE", Checks.taleOf(x, 2), 0);
        Checks.due("22: but by its own", Checks.taleOf(x, 5), 1);
        Checks.yes("22: the most", x.bear(9));
        Checks.due("22: KNOWN ones stay KNOWN", x.look(3), 32);
        Checks.yes("22: one", x.bear(1));
        Checks.due("22: by the first TALE", Checks.taleOf(x, 2), 1);
        Checks.due("22: both KNOWN", x.look(3), 36);
        Checks.yes("22: what it was", x.bear(1));
    }

    private static void tales() {
        DecoyHouse x = Checks.furnished();
        x.tell();
        Checks.due("23: 2", x.tales(2), 1);
        Checks.due("23: 5", x.tales(5), 1);
        Checks.due("23: no DECOY", x.tales(0), 0);
        for (int wrong : new int[] {LEAST, -1, 6, 9, MOST}) {
            Checks.due("23: no such PLACE", x.tales(wrong), NONE);
        }
        x.lay(40);
        Checks.due("23: it stayed", x.tales(5), 1);
        Checks.due("23: it did not", x.tales(2), 0);
        Checks.due("23: it came", x.tales(3), 0);
        x.lay(44);
        Checks.due("23: it came back", x.tales(2), 0);
        Checks.due("23: by the second TALE", Checks.taleOf(x, 5, 2), 1);
        Checks.due("23: since it was KNOWN", x.tales(5), 0);
        Checks.due("23: since it is a DECOY", x.tales(2), 1);
        x.house(9);
        x.lay(257);
        Checks.taleOf(x, 8, 0);
        x.lay(2);
        Checks.due("23: the first PLACE is a DECOY no more", x.tales(0), 0);
        Checks.due("23: nor is the last", x.tales(8), 0);
    }

    private static void day() {
        DecoyHouse x = Checks.furnished();
        for (int d = 2; d <= 300; d++) {
            Checks.due("24: day", x.day(), d);
        }
        Checks.due("24: look(4)", x.look(4), 300);
        Checks.due("24: a TALE goes on over DAYS", x.look(5), 1);
        for (int d = 301; d <= 10000; d++) {
            Checks.due("24: day", x.day(), d);
        }
        String before = Checks.state(x);
        Checks.due("24: the last DAY is over", x.day(), NONE);
        Checks.same("24: nothing is done", Checks.state(x), before);
        x.house(2);
        Checks.due("24: anew", x.day(), 1);
    }
}
