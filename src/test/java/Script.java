import java.util.ArrayList;
import java.util.List;

/**
 * A run of calls on a new object, written as text: calls stand on lines or between semicolons, each
 * with the answer that is due, if it is looked at. "10* day()" stands for ten calls, "doors 01 12"
 * for DOORS from 0 to 1 and from 1 to 2, "all doors 9" for all of nine PLACES, "# .." says why. A
 * call behind "!" does nothing: all that can be asked or done afterwards goes as if it had not come.
 */
final class Script {
    /** How many calls an object is used for at most. */
    static final int MOST_CALLS = 512;

    /** Six PLACES, 0 a GATE, 4 a JEWEL, six WAYS, DECOYS 2 and 5, each touched in one TALE of two, DAY 1. */
    static final String FURNISHED = """
        house(6); doors 01 02 13 23 12 34 35 54; is(0, 1); is(4, 2)
        round(0, 10, 3, 0x131); looks(2, 7); looks(1, 3); looks(5, 1); visible(251)
        lay(36); day(); bear(2); touch(5); touch(2); tell(); touch(2)
        """;
    /** The same with 5 KNOWN, and no TALE begun. */
    static final String KNOWN = FURNISHED + "lay(36); touch(5); tell() 1\n";

    private final String title;
    private final DecoyHouse x = new DecoyHouse();
    private final List<Call> made = new ArrayList<>();
    private final List<Call> done = new ArrayList<>();
    private List<List<Integer>> shown;

    private Script(String title) {
        this.title = title;
    }

    /** The title begins with the promise's number and says the sentence. */
    static void holds(String title, String... parts) {
        Script script = new Script(title);
        script.takeAll(parts);
        // What was refused and what was asked has left no trace.
        script.compare("behind all calls", script.made);
    }

    /** Behind the parts an object shows what one shows behind the other calls alone. */
    static void sameAs(String title, String others, String... parts) {
        Script other = new Script(title);
        other.takeAll(others);
        Script script = new Script(title);
        script.takeAll(parts);
        script.shown = other.show(other.made);
        script.compare("like " + others, script.made);
    }

    /** The line once for each of the words, which stand in it for "_". */
    static String each(String line, String words) {
        StringBuilder all = new StringBuilder();
        for (String word : words.split(" ")) {
            all.append(line.replace("_", word)).append('\n');
        }
        return all.toString();
    }

    private void takeAll(String... parts) {
        for (String line : String.join("\n", parts).split("\n")) {
            for (String part : line.replaceAll("#.*", "").split(";")) {
                take(part.trim());
            }
        }
    }

    private void take(String part) {
        if (part.startsWith("doors ")) {
            for (String pair : part.substring(6).trim().split(" +")) {
                make(doorCall(pair.charAt(0) - '0', pair.charAt(1) - '0'));
            }
        } else if (part.startsWith("all doors ")) {
            makeAllDoors(Integer.parseInt(part.substring(10)));
        } else if (!part.isEmpty()) {
            takeCall(part);
        }
    }

    private static Call doorCall(int a, int b) {
        return Call.of("door(" + a + ", " + b + ", true)");
    }

    private void makeAllDoors(int n) {
        for (int a = 0; a < n; a++) {
            for (int b = 0; b < n; b++) {
                if (a != b) {
                    make(doorCall(a, b));
                }
            }
        }
    }

    private void takeCall(String part) {
        boolean idle = part.startsWith("!");
        String rest = idle ? part.substring(1).trim() : part;
        int star = rest.indexOf('*');
        int times = star < 0 ? 1 : Integer.parseInt(rest.substring(0, star).trim());
        rest = rest.substring(star + 1).trim();
        int close = rest.indexOf(')') + 1;
        Call call = Call.of(rest.substring(0, close));
        String answer = rest.substring(close).trim();
        for (int i = 0; i < times; i++) {
            if (idle) {
                showsNothingOf(call);
            }
            int got = make(call);
            if (!answer.isEmpty()) {
                Checks.due(title + ": call " + made.size() + ", " + call.text(), got, Call.number(answer));
            }
        }
    }

    private int make(Call call) {
        int got = call.on(x);
        made.add(call);
        if (call.hasDone(got)) {
            done.add(call);
            shown = null;
        }
        return got;
    }

    private void showsNothingOf(Call call) {
        List<Call> with = new ArrayList<>(done);
        with.add(call);
        compare("behind " + call.text(), with);
    }

    private void compare(String where, List<Call> calls) {
        if (shown == null) {
            shown = show(done);
        }
        List<List<Integer>> got = show(calls);
        for (int i = 0; i < got.size(); i++) {
            for (int j = 0; j < got.get(i).size(); j++) {
                Checks.due(title + ", " + where + ": probe " + i + ", " + Probes.ALL.get(i).get(j).text(),
                    got.get(i).get(j), shown.get(i).get(j));
            }
        }
    }

    private List<List<Integer>> show(List<Call> calls) {
        List<List<Integer>> all = new ArrayList<>();
        for (List<Call> probe : Probes.ALL) {
            Checks.yes(title + ": within the calls allowed", calls.size() + probe.size() <= MOST_CALLS);
            DecoyHouse fresh = new DecoyHouse();
            for (Call call : calls) {
                call.on(fresh);
            }
            List<Integer> answers = new ArrayList<>();
            for (Call call : probe) {
                answers.add(call.on(fresh));
            }
            all.add(answers);
        }
        return all;
    }
}
