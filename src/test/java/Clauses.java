import java.lang.reflect.InvocationTargetException;
import java.lang.reflect.Method;
import java.util.Arrays;
import java.util.HashMap;
import java.util.HashSet;
import java.util.IdentityHashMap;
import java.util.Map;
import java.util.Set;

/**
 * Answers that are due by single clauses of the document: each is checked under the clause that asks
 * for it, and at the end every clause of a section must have had an answer.
 */
final class Clauses {
    static final int NONE = -1, UNKNOWN = -101, OUTSIDE = -102, STATE = -103, FULL = -104;
    static final int LEAST = Integer.MIN_VALUE, MOST = Integer.MAX_VALUE;
    /** No person of a circle of nine, though some of them are in their last 5, 8 or 31 bits. */
    static final int[] NOBODY = {-1, 9, 10, -9, LEAST, MOST, 31, 32, 33, 256, LEAST + 1, 1 << 30};
    private static final int MOST_CALLS = 512;
    private static final Set<String> CHANGERS = Set.of("letter", "blank", "circle", "kind", "vouch", "recall", "bound");

    private final Checks checks = new Checks();
    private final Document document = new Document();
    private final Map<String, Method> methods = new HashMap<>();
    private final Map<VouchFlow, Integer> calls = new IdentityHashMap<>();
    private final Set<String> answered = new HashSet<>();
    private String section = "";
    private String[] present = {};

    Clauses() {
        for (Method m : VouchFlow.class.getMethods()) {
            methods.put(m.getName() + "/" + m.getParameterCount(), m);
        }
    }

    void section(String name) {
        section = name;
        present = new String[0];
        checks.part(name);
        checks.holds("the document has this section", !document.clausesOf(name).isEmpty());
    }

    /** What follows tests these clauses, which the document must have in this section, word for word. */
    void says(String... clauses) {
        present = clauses;
        for (String clause : clauses) {
            checks.part(section);
            checks.holds("the document says: " + clause, document.clausesOf(section).contains(clause));
        }
        checks.part(section + " (" + clauses[0] + ")");
    }

    VouchFlow read(String text) {
        VouchFlow x = Checks.read(text);
        calls.put(x, text.length() + 1);
        return x;
    }

    VouchFlow typed(String page) {
        VouchFlow x = new VouchFlow();
        type(x, page);
        return x;
    }

    void type(VouchFlow x, String page) {
        Checks.type(x, page);
        calls.merge(x, page.length(), Integer::sum);
    }

    /** The answer of a call, written as "name(1, 2)"; nothing may change if it is an error, or only tells. */
    void due(VouchFlow x, String call, long want) {
        String name = call.substring(0, call.indexOf('('));
        boolean keeps = want < NONE || !CHANGERS.contains(name);
        long before = keeps ? x.digest() : 0;
        note(call, answer(x, call), want);
        if (keeps) {
            checks.holds(call + " changes nothing", x.digest() == before);
        }
        checks.holds("at most 512 calls of an object", calls.merge(x, keeps ? 3 : 1, Integer::sum) <= MOST_CALLS);
    }

    /** The same answer for each of these numbers in the place of #. */
    void dueForEach(VouchFlow x, String call, long want, int... numbers) {
        for (int number : numbers) {
            due(x, call.replace("#", "" + number), want);
        }
    }

    /** The answers for the numbers 0, 1, .. in the place of #. */
    void dueInTurn(VouchFlow x, String call, int... wants) {
        for (int i = 0; i < wants.length; i++) {
            due(x, call.replace("#", "" + i), wants[i]);
        }
    }

    void inkIs(VouchFlow x, String want) {
        String got = Checks.ink(x);
        calls.merge(x, 2 * got.length() + 1, Integer::sum);
        holds("ink() tells " + got + ", due is " + want, got.equals(want));
    }

    void holds(String what, boolean holds) {
        note(what, holds ? 1 : 0, 1);
    }

    void note(String what, long got, long want) {
        checks.due(what, got, want);
        for (String clause : present) {
            answered.add(section + "|" + clause);
        }
    }

    private long answer(VouchFlow x, String call) {
        String inner = call.substring(call.indexOf('(') + 1, call.length() - 1);
        Object[] arguments = inner.isEmpty() ? new Object[0]
                : Arrays.stream(inner.split(", ")).map(Integer::valueOf).toArray();
        Method method = methods.get(call.substring(0, call.indexOf('(')) + "/" + arguments.length);
        try {
            return ((Number) method.invoke(x, arguments)).longValue();
        } catch (IllegalAccessException | InvocationTargetException e) {
            throw new IllegalStateException(call + " throws", e);
        }
    }

    /** Ends the test; of these sections every clause but a mere heading must have been tested. */
    void end(String... sections) {
        checks.part("the document");
        for (String one : sections) {
            for (String clause : document.clausesOf(one)) {
                checks.holds(one + " is tested: " + clause, clause.endsWith(":") || answered.contains(one + "|" + clause));
            }
        }
        checks.end();
    }
}
