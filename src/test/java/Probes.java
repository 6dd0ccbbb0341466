import java.util.ArrayList;
import java.util.List;

/**
 * Rows of calls that lay open all that an object holds. Most of them change the object, so each is
 * put to one that is made anew: then none is used for more calls than the document allows.
 */
final class Probes {
    static final List<List<Call>> ALL = List.of(asks(), ways(), sets(), choices(), doors(),
        kindOfFirst(), kindsOfOthers(), rounds(), looks(), tale(), bears(), days());

    private Probes() {
    }

    private static List<Call> calls(String... texts) {
        List<Call> all = new ArrayList<>();
        for (String text : texts) {
            all.add(Call.of(text));
        }
        return all;
    }

    private static void forEachPlace(List<Call> all, String before, String behind) {
        for (int p = 0; p < 9; p++) {
            all.add(Call.of(before + p + behind));
        }
    }

    private static List<Call> asks() {
        List<Call> all = calls("ways()", "left()", "next()", "cover()");
        for (int i = 0; i < 9; i++) {
            all.add(Call.of("look(" + i + ")"));
            all.add(Call.of("leftWay(" + i + ")"));
            all.add(Call.of("unlike(" + i + ")"));
            all.add(Call.of("tales(" + i + ")"));
        }
        return all;
    }

    private static List<Call> ways() {
        List<Call> all = new ArrayList<>();
        for (int i = 0; i < 40; i++) {
            for (int j = 0; j < 6; j++) {
                all.add(Call.of("way(" + i + ", " + j + ")"));
            }
        }
        return all;
    }

    private static List<Call> sets() {
        List<Call> all = calls("touched(0)", "honest(0)", "touched(511)", "honest(511)");
        for (int p = 0; p < 9; p++) {
            for (int q = p; q < 9; q++) {
                int set = 1 << p | 1 << q;
                all.add(Call.of("touched(" + set + ")"));
                all.add(Call.of("honest(" + set + ")"));
            }
        }
        return all;
    }

    private static List<Call> choices() {
        List<Call> all = new ArrayList<>();
        for (String b : new String[] {"0", "9", "20", "100", "MAX"}) {
            for (int k : new int[] {0, 1, 2, 3, 9}) {
                for (int what = 0; what < 3; what++) {
                    all.add(Call.of("best(" + k + ", " + b + ", " + what + ")"));
                    all.add(Call.of("move(" + b + ", " + k + ", " + what + ")"));
                }
            }
        }
        return all;
    }

    private static void setAllDoors(List<Call> all, boolean is) {
        for (int a = 0; a < 9; a++) {
            for (int b = 0; b < 9; b++) {
                if (a != b) {
                    all.add(Call.of("door(" + a + ", " + b + ", " + is + ")"));
                }
            }
        }
    }

    private static List<Call> doors() {
        List<Call> all = new ArrayList<>();
        setAllDoors(all, true);
        all.add(Call.of("look(1)"));
        return all;
    }

    /** With the DOORS away, a DOOR to a JEWEL makes a WAY if it comes from a GATE, and the like for JEWELS. */
    private static List<Call> kindOfFirst() {
        List<Call> all = calls("lay(0)");
        setAllDoors(all, false);
        all.addAll(calls("is(1, 2)", "door(0, 1, true)", "ways()", "door(0, 1, false)"));
        all.addAll(calls("is(1, 1)", "door(1, 0, true)", "ways()"));
        return all;
    }

    private static List<Call> kindsOfOthers() {
        List<Call> all = calls("lay(0)");
        setAllDoors(all, false);
        all.add(Call.of("is(0, 2)"));
        for (int p = 1; p < 9; p++) {
            all.addAll(calls("door(" + p + ", 0, true)", "ways()", "door(" + p + ", 0, false)"));
        }
        all.add(Call.of("is(0, 1)"));
        for (int p = 1; p < 9; p++) {
            all.addAll(calls("door(0, " + p + ", true)", "ways()"));
        }
        return all;
    }

    private static List<Call> rounds() {
        List<Call> all = new ArrayList<>();
        for (int r = 0; r < 6; r++) {
            all.add(Call.of("round(" + r + ", 0, 0, 0)"));
            for (int p = 0; p < 9; p++) {
                all.add(Call.of("honest(" + (1 << p) + ")"));
            }
        }
        return all;
    }

    /** All but one PLACE are DECOYS, that one is looked at mark by mark. */
    private static List<Call> looks() {
        List<Call> all = calls("lay(0)");
        forEachPlace(all, "is(", ", 0)");
        for (int i = 0; i < 10; i++) {
            all.add(Call.of("day()"));
        }
        for (int n = 2; n <= 9; n++) {
            all.add(Call.of("lay(" + ((1 << n) - 2) + ")"));
        }
        for (int m = 0; m < 8; m++) {
            all.add(Call.of("visible(" + (1 << m) + ")"));
            forEachPlace(all, "unlike(", ")");
        }
        all.add(Call.of("looks(0, 0)"));
        for (int m = 0; m < 8; m++) {
            all.add(Call.of("visible(" + (1 << m) + ")"));
            forEachPlace(all, "unlike(", ")");
        }
        return all;
    }

    private static List<Call> tale() {
        List<Call> all = new ArrayList<>();
        for (int p = 0; p < 9; p++) {
            all.addAll(calls("touch(" + p + ")", "left()", "next()", "look(5)"));
        }
        all.addAll(calls("tell()", "look(5)", "look(3)"));
        forEachPlace(all, "tales(", ")");
        return all;
    }

    private static List<Call> bears() {
        List<Call> all = calls("tell()");
        for (int i = 0; i < 9; i++) {
            forEachPlace(all, "touch(", ")");
            all.addAll(calls("tell()", "look(3)"));
        }
        return all;
    }

    private static List<Call> days() {
        List<Call> all = new ArrayList<>();
        for (int p = 0; p < 9; p++) {
            all.add(Call.of("lay(" + (1 << p) + ")"));
        }
        for (int i = 0; i < 11; i++) {
            all.addAll(calls("look(3)", "look(4)", "day()"));
        }
        for (int p = 0; p < 9; p++) {
            all.add(Call.of("lay(" + (1 << p) + ")"));
        }
        return all;
    }
}
