import java.util.ArrayList;
import java.util.Comparator;
import java.util.HashSet;
import java.util.List;
import java.util.Set;
import java.util.TreeSet;
import java.util.stream.Collectors;
import java.util.stream.IntStream;

/** The document once more, word by word with lists and sets, to hold the program against. */
final class PlainModel {
    private static final int NONE = -1;
    private record Door(int from, int to) { }
    private record Round(int times, List<Integer> row) { }

    private int n;
    private Set<Door> doors;
    private int[] kind;
    private int[] marks;
    private int visible;
    private Round[] rounds;
    private Set<Integer> decoys;
    private List<Integer> tale;
    private int[] told;
    private int[] knownSince;
    private int today;
    private int bears;
    private List<List<Integer>> kept;

    PlainModel() {
        house(2);
    }

    boolean house(int size) {
        if (size < 2 || size > 9) {
            return false;
        }
        n = size;
        doors = new HashSet<>();
        kind = new int[n];
        marks = new int[n];
        visible = 255;
        rounds = new Round[6];
        decoys = new TreeSet<>();
        tale = new ArrayList<>();
        told = new int[n];
        knownSince = IntStream.range(0, n).map(p -> -1000).toArray();
        today = 0;
        bears = 3;
        kept = null;
        return true;
    }

    private boolean isPlace(int p) {
        return p >= 0 && p < n;
    }

    boolean door(int a, int b, boolean is) {
        if (!isPlace(a) || !isPlace(b) || a == b) {
            return false;
        }
        kept = null;
        return is ? doors.add(new Door(a, b)) : doors.remove(new Door(a, b));
    }

    boolean is(int p, int k) {
        if (!isPlace(p) || k < 0 || k > 2 || decoys.contains(p)) {
            return false;
        }
        kind[p] = k;
        kept = null;
        return true;
    }

    boolean looks(int p, int m) {
        if (!isPlace(p) || m < 0 || m > 255) {
            return false;
        }
        marks[p] = m;
        return true;
    }

    boolean visible(int m) {
        if (m < 0 || m > 255) {
            return false;
        }
        visible = m;
        return true;
    }

    boolean round(int r, int times, int length, int row) {
        if (r < 0 || r > 5 || times < 0 || times > 99 || length < 0 || length > 8) {
            return false;
        }
        List<Integer> places = new ArrayList<>();
        long rest = row & 0xFFFFFFFFL;
        for (int j = 0; j < length; j++) {
            places.add((int) (rest % 16));
            rest /= 16;
        }
        if (!places.stream().allMatch(this::isPlace)) {
            return false;
        }
        rounds[r] = new Round(times, places);
        return true;
    }

    int look(int what) {
        return switch (what) {
            case 0 -> n;
            case 1 -> doors.size();
            case 2 -> number(decoys);
            case 3 -> number(known());
            case 4 -> today;
            case 5 -> tale.size();
            case 6 -> visible;
            case 7 -> bears;
            default -> NONE;
        };
    }

    private Set<Integer> known() {
        return IntStream.range(0, n).filter(p -> today - knownSince[p] < 10).boxed().collect(Collectors.toSet());
    }

    private static int number(Set<Integer> set) {
        return set.stream().mapToInt(p -> 1 << p).sum();
    }

    private Set<Integer> set(int number) {
        return IntStream.range(0, n).filter(p -> (number >> p & 1) == 1).boxed()
            .collect(Collectors.toCollection(TreeSet::new));
    }

    private boolean isSet(int number) {
        return number >= 0 && number < 1 << n;
    }

    /** All rows of PLACES, one longer each time; those that came to a JEWEL are WAYS and end. Null if too many. */
    private List<List<Integer>> allWays() {
        if (kept == null) {
            kept = new ArrayList<>();
            List<List<Integer>> rows = new ArrayList<>();
            for (int p = 0; p < n; p++) {
                if (kind[p] == 1) {
                    rows.add(List.of(p));
                }
            }
            for (int length = 2; length <= 6; length++) {
                List<List<Integer>> longer = new ArrayList<>();
                for (List<Integer> row : rows) {
                    for (int p = 0; p < n; p++) {
                        if (doors.contains(new Door(row.get(row.size() - 1), p)) && !row.contains(p)) {
                            List<Integer> one = new ArrayList<>(row);
                            one.add(p);
                            (kind[p] == 2 ? kept : longer).add(one);
                        }
                    }
                }
                rows = longer;
            }
            kept.sort(PlainModel::compareRows);
        }
        return kept.size() > 2000 ? null : kept;
    }

    private static int compareRows(List<Integer> a, List<Integer> b) {
        for (int j = 0; j < Math.min(a.size(), b.size()); j++) {
            if (!a.get(j).equals(b.get(j))) {
                return a.get(j) - b.get(j);
            }
        }
        return a.size() - b.size();
    }

    int ways() {
        return allWays() == null ? NONE : allWays().size();
    }

    int way(int i, int j) {
        List<List<Integer>> all = allWays();
        if (all == null || i < 0 || i >= all.size() || j < 0 || j >= all.get(i).size()) {
            return NONE;
        }
        return all.get(i).get(j);
    }

    int touched(int set) {
        return !isSet(set) || allWays() == null ? NONE : waysTouchedBy(set);
    }

    private int waysTouchedBy(int number) {
        int count = 0;
        for (List<Integer> way : allWays()) {
            boolean hit = false;
            for (int p : way) {
                hit |= (number >> p & 1) == 1;
            }
            count += hit ? 1 : 0;
        }
        return count;
    }

    int honest(int set) {
        return isSet(set) ? honestTouches(set) : NONE;
    }

    private int honestTouches(int number) {
        int sum = 0;
        for (Round round : rounds) {
            if (round != null) {
                for (int p : round.row()) {
                    sum += (number >> p & 1) == 1 ? round.times() : 0;
                }
            }
        }
        return sum;
    }

    private List<Integer> layable() {
        return IntStream.range(0, 1 << n).boxed().filter(this::canLay).collect(Collectors.toList());
    }

    private boolean canLay(int number) {
        return isSet(number) && set(number).stream().allMatch(p -> kind[p] == 0 && !known().contains(p));
    }

    int best(int k, int b, int what) {
        if (k < 0 || k > 9 || b < 0 || allWays() == null) {
            return NONE;
        }
        int found = layable().stream()
            .filter(s -> Integer.bitCount(s) <= k && honestTouches(s) <= b)
            .min(Comparator.<Integer>comparingInt(s -> -waysTouchedBy(s))
                .thenComparingInt(s -> Integer.bitCount(s))
                .thenComparingInt(this::honestTouches)
                .thenComparingInt(s -> s)).get();
        return what == 0 ? waysTouchedBy(found) : what == 1 ? found : what == 2 ? honestTouches(found) : NONE;
    }

    int cover() {
        if (allWays() == null) {
            return NONE;
        }
        return layable().stream()
            .filter(s -> waysTouchedBy(s) == ways())
            .min(Comparator.<Integer>comparingInt(s -> Integer.bitCount(s))
                .thenComparingInt(this::honestTouches)
                .thenComparingInt(s -> s)).orElse(NONE);
    }

    boolean lay(int number) {
        if (!canLay(number)) {
            return false;
        }
        Set<Integer> after = set(number);
        for (int p = 0; p < n; p++) {
            if (!decoys.contains(p) || !after.contains(p)) {
                told[p] = 0;
            }
        }
        decoys = after;
        tale.clear();
        return true;
    }

    int unlike(int p) {
        if (!decoys.contains(p)) {
            return NONE;
        }
        return IntStream.range(0, n).filter(q -> !decoys.contains(q))
            .map(q -> Integer.bitCount((marks[p] & visible) ^ (marks[q] & visible))).min().orElse(NONE);
    }

    boolean touch(int p) {
        return decoys.contains(p) && !tale.contains(p) && tale.size() < 6 && tale.add(p);
    }

    private boolean isLeft(List<Integer> way) {
        if (tale.isEmpty()) {
            return true;
        }
        int last = way.indexOf(tale.get(tale.size() - 1));
        List<Integer> ahead = way.subList(0, last + 1).stream().filter(decoys::contains).collect(Collectors.toList());
        return ahead.equals(tale);
    }

    int left() {
        return allWays() == null ? NONE : (int) allWays().stream().filter(this::isLeft).count();
    }

    int leftWay(int i) {
        if (allWays() == null || i < 0) {
            return NONE;
        }
        return IntStream.range(0, ways()).filter(w -> isLeft(allWays().get(w))).skip(i).findFirst().orElse(NONE);
    }

    int next() {
        if (allWays() == null) {
            return NONE;
        }
        Set<Integer> places = new TreeSet<>();
        for (List<Integer> way : allWays()) {
            if (isLeft(way)) {
                places.add(way.get(tale.isEmpty() ? 0 : way.indexOf(tale.get(tale.size() - 1)) + 1));
            }
        }
        return number(places);
    }

    int tell() {
        int became = 0;
        for (int p : tale) {
            told[p]++;
            if (told[p] >= bears) {
                told[p] = 0;
                knownSince[p] = today;
                became++;
            }
        }
        tale.clear();
        return became;
    }

    boolean bear(int b) {
        if (b < 1 || b > 9) {
            return false;
        }
        bears = b;
        return true;
    }

    int tales(int p) {
        return isPlace(p) ? told[p] : NONE;
    }

    int day() {
        return today == 10000 ? NONE : ++today;
    }

    int move(int b, int w, int what) {
        if (b < 0 || w < 0 || allWays() == null) {
            return NONE;
        }
        int now = number(decoys);
        int found = layable().stream()
            .filter(s -> Integer.bitCount(s) == decoys.size() && honestTouches(s) <= b && waysTouchedBy(s) >= w)
            .min(Comparator.<Integer>comparingInt(s -> -Integer.bitCount(s & now))
                .thenComparingInt(s -> -waysTouchedBy(s))
                .thenComparingInt(s -> s)).orElse(NONE);
        if (found == NONE) {
            return NONE;
        }
        return what == 0 ? found : what == 1 ? decoys.size() - Integer.bitCount(found & now)
            : what == 2 ? waysTouchedBy(found) : NONE;
    }
}
