import java.lang.reflect.InvocationTargetException;
import java.lang.reflect.Method;
import java.lang.reflect.Modifier;
import java.util.Arrays;
import java.util.Comparator;
import java.util.Set;

/**
 * Every call with every combination of numbers from both sides of every boundary, in states that are
 * empty, full and between, each answer compared with the plain measure's: so each pair of errors that
 * can apply at once is met.
 */
public final class AllArgumentsTest {
    private static final int LEAST = Integer.MIN_VALUE, MOST = Integer.MAX_VALUE;
    private static final int MOST_CALLS = 512;
    private static final Set<String> CHANGERS = Set.of("letter", "blank", "circle", "kind", "vouch", "recall", "bound");

    private static final int[] FEW = {LEAST, -1, 0, 1, 2, 3, 4, 5, 6, 8, 9, 32, MOST};
    private static final int[] SOME = {LEAST, LEAST + 1, -104, -103, -102, -101, -2, -1, 0, 1, 2, 3, 4, 5, 6, 7, 8, 9, 10, 11,
        31, 32, 33, 40, 64, 255, 256, 257, 65535, 65536, MOST - 1, MOST};

    /** The circle, and behind the bar what stands on the page. */
    private static final String[] STATES = {"|", "|1:0", "|1:0:", "1:0:|", "1:9:*|1:0:;", "2:1:*>1;!|x", "3:11:>1;>2;!>0|",
        "6:421:*>1>2;>3>4;>4;!>5;!;!|6:421:*", "8:98765:>7;>0;>1;>2;>3;>4;>5;*>6|", "9:0:;;;;;;;;|",
        "9:12345:*>1>2>3>4>5;*>6;*>6;*>6;*>6;!>0>6>7>8;!>8;>5;|" + "9:9999:" + ";".repeat(103),
        "9:111:*>5>6;*>5;*>6>7;*;;!>8;!>8;!;!>0>1>2>3>4|" + "~".repeat(109)};

    private final Checks checks = new Checks();
    private String state;
    private VouchFlow x;
    private PlainVouchFlow y;
    private int calls;
    private long before;

    public static void main(String[] args) {
        new AllArgumentsTest().run();
    }

    private void run() {
        Method[] methods = VouchFlow.class.getDeclaredMethods();
        Arrays.sort(methods, Comparator.comparing(Method::getName));
        for (String one : STATES) {
            state = one;
            for (Method method : methods) {
                if (Modifier.isPublic(method.getModifiers())) {
                    make();
                    sweep(method, plain(method));
                }
            }
        }
        checks.end();
    }

    private static Method plain(Method method) {
        try {
            return PlainVouchFlow.class.getDeclaredMethod(method.getName(), method.getParameterTypes());
        } catch (NoSuchMethodException e) {
            throw new IllegalStateException(e);
        }
    }

    private void make() {
        x = new VouchFlow();
        y = new PlainVouchFlow();
        calls = 2;
        String text = state.substring(0, state.indexOf('|'));
        type(text);
        checks.due("circle() of " + text, x.circle(), y.circle());
        type(state.substring(text.length() + 1));
        before = x.digest();
    }

    private void type(String text) {
        for (char sign : text.toCharArray()) {
            checks.due("letter() of " + text, x.letter(sign), y.letter(sign));
            calls++;
        }
    }

    private void sweep(Method method, Method plain) {
        int many = method.getParameterCount();
        int[] numbers = many == 1 ? wide() : many == 2 ? SOME : FEW;
        int combinations = 1;
        for (int i = 0; i < many; i++) {
            combinations *= numbers.length;
        }
        for (int i = 0; i < combinations; i++) {
            Object[] arguments = new Object[many];
            for (int place = 0, rest = i; place < many; place++, rest /= numbers.length) {
                arguments[place] = numbers[rest % numbers.length];
            }
            compare(method, plain, arguments);
        }
    }

    /** All numbers near 0, and those around the powers of two. */
    private static int[] wide() {
        int[] numbers = new int[300 + 3 * 32];
        for (int i = 0; i < 300; i++) {
            numbers[i] = i - 150;
        }
        for (int bit = 0; bit < 32; bit++) {
            for (int i = 0; i < 3; i++) {
                numbers[300 + 3 * bit + i] = (1 << bit) + i - 1;
            }
        }
        return numbers;
    }

    private void compare(Method method, Method plain, Object[] arguments) {
        if (calls > MOST_CALLS - 2) {
            make();
        }
        calls += 2;
        String call = method.getName() + Arrays.toString(arguments) + " at " + state;
        long want = answer(plain, y, arguments);
        checks.due(call, answer(method, x, arguments), want);
        if (want >= -1 && CHANGERS.contains(method.getName())) {
            checks.due("digest() after " + call, x.digest(), y.digest());
            make();
        } else {
            checks.due("digest() after " + call, x.digest(), before);
        }
    }

    private static long answer(Method method, Object object, Object[] arguments) {
        try {
            return ((Number) method.invoke(object, arguments)).longValue();
        } catch (IllegalAccessException | InvocationTargetException e) {
            throw new IllegalStateException(method.getName() + Arrays.toString(arguments) + " throws", e);
        }
    }
}
