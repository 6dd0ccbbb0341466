import java.util.function.BooleanSupplier;

/** What the tests share: counting wrong answers, and telling all that an object answers. */
final class Checks {
    private static int wrong = 0;
    private static int done = 0;

    private Checks() {
    }

    static void due(String what, long got, long want) {
        done++;
        if (got != want) {
            wrong++;
            System.out.println(what + " answered " + got + ", due is " + want);
        }
    }

    static void yes(String what, boolean got) {
        due(what, got ? 1 : 0, 1);
    }

    static void no(String what, boolean got) {
        due(what, got ? 1 : 0, 0);
    }

    static void same(String what, String got, String want) {
        done++;
        if (!got.equals(want)) {
            wrong++;
            System.out.println(what + ": got  " + got + "\n" + what + ": want " + want);
        }
    }

    /** The call is refused, and the object answers everything as it did before. */
    static void refused(DecoyHouse x, String what, BooleanSupplier call) {
        String before = state(x);
        no(what, call.getAsBoolean());
        same(what + ", nothing is done", state(x), before);
    }

    static void end() {
        System.out.println(done + " checks, " + wrong + " wrong");
        if (wrong != 0) {
            System.exit(1);
        }
    }

    /** All that can be asked without changing the object. */
    static String state(DecoyHouse x) {
        StringBuilder all = new StringBuilder();
        for (int what = -1; what <= 8; what++) {
            all.append(x.look(what)).append(' ');
        }
        all.append("| ways ").append(x.ways()).append(':');
        for (int i = 0; i < Math.min(x.ways(), 30); i++) {
            for (int j = 0; j < 6; j++) {
                all.append(x.way(i, j)).append(',');
            }
            all.append(' ');
        }
        all.append("| sets ");
        for (int set = 0; set < 1 << x.look(0); set++) {
            all.append(x.touched(set)).append('/').append(x.honest(set)).append(' ');
        }
        all.append("| best ");
        for (int k = 0; k <= 3; k++) {
            for (int what = 0; what <= 2; what++) {
                all.append(x.best(k, 20, what)).append(' ').append(x.move(30, k, what)).append(' ');
            }
        }
        all.append("| cover ").append(x.cover()).append(" | places ");
        for (int p = 0; p < 9; p++) {
            all.append(x.unlike(p)).append('/').append(x.tales(p)).append(' ');
        }
        all.append("| left ").append(x.left()).append(' ').append(x.next()).append(':');
        for (int i = 0; i < 10; i++) {
            all.append(x.leftWay(i)).append(' ');
        }
        return all.toString();
    }

    /** A house in which all is set: six PLACES, 0 a GATE, 4 a JEWEL, DECOYS 2 and 5, a TALE begun. */
    static DecoyHouse furnished() {
        DecoyHouse x = new DecoyHouse();
        x.house(6);
        doors(x, "01 02 13 23 12 34 35 54");
        x.is(0, 1);
        x.is(4, 2);
        x.round(0, 10, 3, 0x131);
        x.looks(2, 7);
        x.looks(1, 3);
        x.looks(5, 1);
        x.lay(36);
        x.day();
        x.bear(2);
        x.touch(5);
        x.tell();
        x.touch(2);
        x.visible(251);
        return x;
    }

    /** DOORS written as pairs of digits. */
    static void doors(DecoyHouse x, String pairs) {
        for (String pair : pairs.split(" ")) {
            x.door(pair.charAt(0) - '0', pair.charAt(1) - '0', true);
        }
    }

    static void allDoors(DecoyHouse x, int n) {
        for (int a = 0; a < n; a++) {
            for (int b = 0; b < n; b++) {
                x.door(a, b, true);
            }
        }
    }

    static void days(DecoyHouse x, int n) {
        for (int i = 0; i < n; i++) {
            x.day();
        }
    }

    /** A TALE of the PLACES, told: how many became KNOWN. */
    static int taleOf(DecoyHouse x, int... places) {
        for (int p : places) {
            x.touch(p);
        }
        return x.tell();
    }
}
