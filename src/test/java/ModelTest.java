/** Long runs of calls, all promises mixed, each answer held against the plain model. The same every time. */
public final class ModelTest {
    private static final int RUNS = 150;
    private static final int CALLS = 512;
    private static final int[] STRANGE = {Integer.MIN_VALUE, -2, -1, 10, 16, 31, 32, 64, 512, Integer.MAX_VALUE};

    private final DecoyHouse x = new DecoyHouse();
    private final PlainModel y = new PlainModel();
    private final int run;
    private long seed;

    private ModelTest(int run) {
        this.run = run;
        seed = run * 7919L + 17;
    }

    public static void main(String[] args) {
        for (int run = 0; run < RUNS; run++) {
            new ModelTest(run).go();
        }
        Checks.end();
    }

    private int upTo(int most) {
        seed = seed * 6364136223846793005L + 1442695040888963407L;
        return (int) ((seed >>> 33) % (most + 1));
    }

    /** Mostly 0 .. most, now and then one that can't be. */
    private int some(int most) {
        int draw = upTo(39);
        if (draw == 0) {
            return STRANGE[upTo(STRANGE.length - 1)];
        }
        return draw == 1 ? most + 1 : upTo(most);
    }

    private int place() {
        return some(y.look(0) - 1);
    }

    private int set() {
        return some((1 << y.look(0)) - 1);
    }

    /** Few PLACES, and those that were laid before more often, so that TALES are told of them. */
    private int layable() {
        return upTo(3) == 0 ? set() : set() & set() & set();
    }

    private int row() {
        int row = 0;
        for (int j = 0; j < 8; j++) {
            row = row << 4 | (upTo(60) == 0 ? upTo(15) : upTo(y.look(0) - 1));
        }
        return row;
    }

    private void go() {
        int n = 2 + upTo(7);
        yes("house", x.house(n), y.house(n));
        int density = upTo(10);
        for (int a = 0; a < n; a++) {
            for (int b = 0; b < n; b++) {
                if (upTo(9) < density) {
                    yes("door", x.door(a, b, true), y.door(a, b, true));
                }
            }
        }
        yes("is", x.is(0, 1), y.is(0, 1));
        yes("is", x.is(n - 1, 2), y.is(n - 1, 2));
        for (int call = x.look(1) + 3; call < CALLS; call++) {
            if (upTo(2) == 0) {
                change();
            } else {
                ask();
            }
        }
    }

    private void due(String what, int got, int want) {
        Checks.due("run " + run + ": " + what, got, want);
    }

    private void yes(String what, boolean got, boolean want) {
        due(what, got ? 1 : 0, want ? 1 : 0);
    }

    private void change() {
        int a = place();
        int b = place();
        int n = some(9);
        boolean is = upTo(2) != 0;
        switch (upTo(16)) {
            case 0 -> yes("door", x.door(a, b, is), y.door(a, b, is));
            case 1 -> {
                int kind = some(2);
                yes("is", x.is(a, kind), y.is(a, kind));
            }
            case 2 -> {
                int marks = some(255);
                yes("looks", x.looks(a, marks), y.looks(a, marks));
            }
            case 3 -> {
                int marks = some(255);
                yes("visible", x.visible(marks), y.visible(marks));
            }
            case 4, 5 -> {
                int r = some(5);
                int times = some(upTo(1) == 0 ? 9 : 99);
                int length = some(8);
                int row = row();
                yes("round", x.round(r, times, length, row), y.round(r, times, length, row));
            }
            case 6, 7 -> {
                int set = layable();
                yes("lay", x.lay(set), y.lay(set));
            }
            case 8, 9, 10, 11, 12 -> yes("touch", x.touch(a), y.touch(a));
            case 13, 14 -> due("tell", x.tell(), y.tell());
            case 15 -> due("day", x.day(), y.day());
            default -> {
                if (upTo(12) == 0) {
                    yes("house", x.house(n), y.house(n));
                } else {
                    yes("bear", x.bear(n), y.bear(n));
                }
            }
        }
    }

    private void ask() {
        int i = some(Math.max(y.ways(), 3));
        int what = some(2);
        int b = some(200);
        switch (upTo(15)) {
            case 0 -> {
                int which = some(7);
                due("look", x.look(which), y.look(which));
            }
            case 1 -> due("ways", x.ways(), y.ways());
            case 2 -> {
                int j = some(5);
                due("way", x.way(i, j), y.way(i, j));
            }
            case 3 -> {
                int set = set();
                due("touched", x.touched(set), y.touched(set));
            }
            case 4 -> {
                int set = set();
                due("honest", x.honest(set), y.honest(set));
            }
            case 5 -> {
                int k = some(upTo(1) == 0 ? 3 : 9);
                due("best", x.best(k, b, what), y.best(k, b, what));
            }
            case 6 -> due("cover", x.cover(), y.cover());
            case 7 -> {
                int p = place();
                due("unlike", x.unlike(p), y.unlike(p));
            }
            case 8 -> due("left", x.left(), y.left());
            case 9 -> due("leftWay", x.leftWay(i), y.leftWay(i));
            case 10 -> {
                int first = upTo(3);
                due("leftWay", x.leftWay(first), y.leftWay(first));
            }
            case 11 -> due("next", x.next(), y.next());
            case 12 -> {
                int p = place();
                due("tales", x.tales(p), y.tales(p));
            }
            default -> {
                int w = some(Math.max(y.ways(), 1));
                due("move", x.move(b, w, what), y.move(b, w, what));
            }
        }
    }
}
