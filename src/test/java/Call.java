import java.lang.reflect.InvocationTargetException;
import java.lang.reflect.Method;
import java.util.Set;

/** One call written as text, such as "door(0, 1, true)". MIN and MAX are the least and the greatest int. */
record Call(String text, Method method, Object[] arguments) {
    private static final Set<String> CHANGES = Set.of("house", "door", "is", "looks", "visible", "round",
        "lay", "touch", "tell", "bear", "day");

    static Call of(String text) {
        int open = text.indexOf('(');
        String name = text.substring(0, open);
        String inside = text.substring(open + 1, text.indexOf(')')).trim();
        String[] words = inside.isEmpty() ? new String[0] : inside.split(",");
        Object[] values = new Object[words.length];
        for (int i = 0; i < words.length; i++) {
            String word = words[i].trim();
            boolean isTruth = word.equals("true") || word.equals("false");
            values[i] = isTruth ? (Object) word.equals("true") : (Object) sum(word);
        }
        return new Call(text, methodOf(name), values);
    }

    /** A set may be written as the sum of its PLACES, such as "4 + 32". */
    private static int sum(String words) {
        int sum = 0;
        for (String word : words.split(" \\+ ")) {
            sum += number(word);
        }
        return sum;
    }

    /** A truth counts 1 or 0. */
    static int number(String word) {
        switch (word) {
            case "MIN":
                return Integer.MIN_VALUE;
            case "MAX":
                return Integer.MAX_VALUE;
            case "NONE":
                return DecoyHouse.NONE;
            case "true":
                return 1;
            case "false":
                return 0;
            default:
                return word.startsWith("0x")
                    ? Integer.parseUnsignedInt(word.substring(2), 16) : Integer.parseInt(word);
        }
    }

    private static Method methodOf(String name) {
        for (Method m : DecoyHouse.class.getMethods()) {
            if (m.getName().equals(name)) {
                return m;
            }
        }
        throw new IllegalArgumentException("no method " + name);
    }

    int on(DecoyHouse x) {
        try {
            Object got = method.invoke(x, arguments);
            return got instanceof Boolean ? ((Boolean) got ? 1 : 0) : (Integer) got;
        } catch (InvocationTargetException | IllegalAccessException e) {
            throw new IllegalStateException(text + " threw " + e.getCause(), e);
        }
    }

    /** Whether the call, having answered so, has done something. */
    boolean hasDone(int answer) {
        if (!CHANGES.contains(method.getName())) {
            return false;
        }
        boolean isTruth = method.getReturnType() == boolean.class;
        return isTruth ? answer == 1 : answer != DecoyHouse.NONE;
    }
}
