import java.lang.reflect.InvocationTargetException;
import java.lang.reflect.Method;
import java.lang.reflect.Modifier;
import java.util.ArrayList;
import java.util.Arrays;
import java.util.HashMap;
import java.util.List;
import java.util.Map;
import java.util.Set;

/**
 * Runs of calls written as text, each with the answer that is due: "hold(0, 0, 1) = -5; field(0, 0) = 1". A line that
 * begins with a text between single quotes feeds that text first. Of each call that is refused, or that only asks, it
 * is also tested that it changes nothing; and each due answer is compared with Model's, so that a slip of the pen
 * here is found, too.
 */
class Script extends Due {
    private static final Set<String> ASKS = Set.of("of", "field", "raw", "told", "on", "need", "least", "fits", "can", "odds",
        "mean", "ends", "looked", "judge", "taken", "count", "read");
    private static final Map<String, Long> NAMES = Map.ofEntries(Map.entry("NONE", -1L), Map.entry("BAD", -2L),
        Map.entry("STATE", -3L), Map.entry("FULL", -4L), Map.entry("NOTHING", -11L), Map.entry("CAST", -12L),
        Map.entry("PLACE", -13L), Map.entry("SIZE", -14L), Map.entry("NO", NO), Map.entry("MIN", (long) MIN),
        Map.entry("MAX", (long) MAX), Map.entry("LONG_MIN", Long.MIN_VALUE), Map.entry("LONG_MAX", Long.MAX_VALUE),
        Map.entry("true", 1L), Map.entry("false", 0L));
    private static final Map<String, Method> FACE = methods(ReversedLinks.class, true);
    private static final Map<String, Method> MODEL = methods(Model.class, false);

    private record Call(String name, long[] args, Long due, String text) {
        boolean changesNothing() {
            boolean isRefusal = due != null && (due >= -4 && due <= -1 || due >= -14 && due <= -11);
            boolean isOfTheText = name.equals("build") && due != null && due <= -4;
            return ASKS.contains(name) || isRefusal && !isOfTheText;
        }
    }

    private static Map<String, Method> methods(Class<?> of, boolean isFace) {
        Map<String, Method> methods = new HashMap<>();
        for (Method method : of.getDeclaredMethods()) {
            if (!Modifier.isPrivate(method.getModifiers()) && Modifier.isPublic(method.getModifiers()) == isFace) {
                methods.put(method.getName(), method);
            }
        }
        return methods;
    }

    /** One run on a new object: what it tests, and its calls. */
    static void run(String title, String... lines) {
        List<Call> calls = parsed(lines);
        ReversedLinks x = new ReversedLinks();
        Model model = new Model();
        List<Call> changes = new ArrayList<>();
        List<Call> others = new ArrayList<>();
        for (Call call : calls) {
            if (call.due != null) {
                is(call.due, answer(model, MODEL, call), title + ": the model of " + call.text);
                is(call.due, answer(x, FACE, call), title + ": " + call.text);
            } else {
                is(answer(model, MODEL, call), answer(x, FACE, call), title + ": " + call.text);
            }
            if (call.changesNothing()) {
                others.add(call);
            } else {
                nothingChangedBy(title, changes, others);
                changes.add(call);
            }
        }
        nothingChangedBy(title, changes, others);
    }

    /** A line as often as told; "#" in it is which one of these it is, from 0 on, and "@" the number behind that. */
    static String times(int n, String line) {
        StringBuilder lines = new StringBuilder();
        for (int k = 0; k < n; k++) {
            lines.append(line.replace("#", String.valueOf(k)).replace("@", String.valueOf(k + 1))).append(';');
        }
        return lines.toString();
    }

    private static void nothingChangedBy(String title, List<Call> changes, List<Call> others) {
        if (others.isEmpty()) {
            return;
        }
        long[] due = Look.at(behind(changes, List.of()));
        if (!Arrays.equals(due, Look.at(behind(changes, others)))) {
            for (Call one : others) {
                boolean isSame = Arrays.equals(due, Look.at(behind(changes, List.of(one))));
                is(1, isSame ? 1 : 0, title + ": that nothing changes by " + one.text);
            }
            is(0, 1, title + ": something changed by calls that change nothing");
        }
        others.clear();
    }

    private static ReversedLinks behind(List<Call> changes, List<Call> others) {
        ReversedLinks x = new ReversedLinks();
        changes.forEach(call -> answer(x, FACE, call));
        others.forEach(call -> answer(x, FACE, call));
        return x;
    }

    private static long answer(Object x, Map<String, Method> methods, Call call) {
        Method method = methods.get(call.name);
        Class<?>[] types = method.getParameterTypes();
        Object[] args = new Object[types.length];
        for (int k = 0; k < types.length; k++) {
            if (types[k] == boolean.class) {
                args[k] = call.args[k] != 0;
            } else if (types[k] == long.class) {
                args[k] = call.args[k];
            } else {
                args[k] = Math.toIntExact(call.args[k]);
            }
        }
        try {
            return ((Number) method.invoke(x, args)).longValue();
        } catch (InvocationTargetException e) {
            is(0, 1, call.text + " threw " + e.getCause());
            return 0;
        } catch (IllegalAccessException e) {
            throw new IllegalStateException(e);
        }
    }

    private static List<Call> parsed(String[] lines) {
        List<Call> calls = new ArrayList<>();
        for (String line : lines) {
            String rest = line;
            if (line.startsWith("'")) {
                int end = line.lastIndexOf('\'');
                for (int k = 1; k < end; k++) {
                    calls.add(new Call("feed", new long[] {line.charAt(k)}, null, "feed('" + line.charAt(k) + "')"));
                }
                rest = line.substring(end + 1);
            }
            for (String text : rest.split(";")) {
                if (!text.isBlank()) {
                    calls.add(call(text.strip()));
                }
            }
        }
        return calls;
    }

    private static Call call(String text) {
        int open = text.indexOf('(');
        int close = text.indexOf(')');
        String name = text.substring(0, open);
        if (!FACE.containsKey(name)) {
            throw new IllegalArgumentException(text);
        }
        String inside = text.substring(open + 1, close);
        String[] words = inside.isBlank() ? new String[0] : inside.split(",");
        if (words.length != FACE.get(name).getParameterCount()) {
            throw new IllegalArgumentException(text);
        }
        long[] args = new long[words.length];
        for (int k = 0; k < words.length; k++) {
            args[k] = number(words[k].strip());
        }
        String behind = text.substring(close + 1).strip();
        return new Call(name, args, behind.isEmpty() ? null : number(behind.substring(1).strip()), text);
    }

    private static long number(String word) {
        if (NAMES.containsKey(word)) {
            return NAMES.get(word);
        }
        return word.startsWith("0b") ? Long.parseLong(word.substring(2), 2) : Long.parseLong(word);
    }
}
