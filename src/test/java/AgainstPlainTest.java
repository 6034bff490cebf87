import java.util.Random;

/** Long random runs of calls, good and bad ones, each answer compared with the plain measure's. */
public final class AgainstPlainTest {
    private static final int RUNS = 400;
    private static final int MOST_CALLS = 512;
    private static final int NARROW_CIRCLES = 6000;
    private static final int[] WILD = {Integer.MIN_VALUE, Integer.MAX_VALUE, -102, -1, 9, 10, 31, 32, 64, 511, 512, 1 << 9, -512};
    private static final String SIGNS = "0123456789:;>*! ~";

    private final Checks checks = new Checks();
    // a seed that is written here: the same runs each time
    private final Random random = new Random(20261118);
    private VouchFlow x;
    private PlainVouchFlow y;
    private int calls;

    public static void main(String[] args) {
        new AgainstPlainTest().run();
    }

    private void run() {
        for (int run = 0; run < RUNS && checks.clean(); run++) {
            checks.part("run " + run);
            x = new VouchFlow();
            y = new PlainVouchFlow();
            calls = 0;
            if (random.nextInt(8) == 0) {
                callsWithoutCircle();
            }
            while (calls < MOST_CALLS - 330) {
                type(random.nextInt(3) == 0 ? spoilt(text()) : text());
                due("fault()", x.fault(), y.fault());
                due("circle()", x.circle(), y.circle());
                due("blank()", x.blank(), y.blank());
                anyCalls(10);
            }
            anyCalls(MOST_CALLS - 1 - calls);
            due("digest()", x.digest(), y.digest());
        }
        for (int i = 0; i < NARROW_CIRCLES && checks.clean(); i++) {
            checks.part("narrow circle " + i);
            narrowCircle();
        }
        checks.end();
    }

    /** Many persons, few vouches and low limits: parts and ways must often give way to others. */
    private void narrowCircle() {
        x = new VouchFlow();
        y = new PlainVouchFlow();
        type(narrowText());
        due("circle()", x.circle(), y.circle());
        int n = y.count(0);
        for (int p = 0; p < n; p++) {
            two("person", p, 5);
            two("person", p, 7);
            one("apart", p);
        }
        one("trust", 2);
        one("trust", 4);
        for (int what = 0; what <= 2; what++) one("cut", what);
        for (int i = 0; i < 8; i++) one("together", random.nextInt(1 << n));
    }

    private String narrowText() {
        int n = 7 + random.nextInt(3);
        StringBuilder b = new StringBuilder().append(n).append(':');
        for (int i = 0; i < 5; i++) b.append(random.nextInt(6) == 0 ? 2 : 1);
        int seeds = 2 + random.nextInt(2);
        int shift = random.nextInt(n);
        char end = ':';
        for (int p = 0; p < n; p++) {
            b.append(end);
            end = ';';
            b.append((p + shift) % n < seeds ? "*" : random.nextInt(3) == 0 ? "!" : "");
            int given = 0;
            for (int w = 0; w < n; w++) {
                if (w != p && given < 5 && random.nextInt(n) < 2) {
                    b.append('>').append(w);
                    given++;
                }
            }
        }
        return b.toString();
    }

    private void due(String call, long got, long want) {
        calls++;
        checks.due(call + " at " + y.text(), got, want);
    }

    private void callsWithoutCircle() {
        for (int i = 0; i < 60; i++) {
            call(2 + random.nextInt(24));
        }
        due("digest()", x.digest(), y.digest());
    }

    private void anyCalls(int many) {
        for (int i = 0; i < many; i++) {
            int which = random.nextInt(26);
            // digest() is dear for the measure, and a lone circle() says little
            if (which < 25 || random.nextInt(6) == 0) {
                call(which);
            } else {
                call(7 + random.nextInt(4));
            }
        }
    }

    private void type(String text) {
        for (int i = 0; i < text.length(); i++) {
            due("letter()", x.letter(text.charAt(i)), y.letter(text.charAt(i)));
        }
    }

    private String text() {
        int n = 1 + random.nextInt(9);
        StringBuilder b = new StringBuilder().append(n).append(':');
        int bounds = 1 + random.nextInt(5);
        int most = 1 + random.nextInt(10);
        for (int i = 0; i < bounds; i++) b.append(random.nextInt(most));
        b.append(':');
        int density = 1 + random.nextInt(9);
        int seeds = 0;
        for (int p = 0; p < n; p++) {
            if (p > 0) b.append(';');
            int kind = random.nextInt(4);
            if (kind == 1 && seeds < 5) {
                b.append('*');
                seeds++;
            }
            if (kind == 2) b.append('!');
            int given = 0;
            for (int w = 0; w < n; w++) {
                if (w != p && given < 5 && random.nextInt(10) < density) {
                    b.append('>').append(w);
                    given++;
                }
            }
        }
        return b.length() > 110 ? b.substring(0, 110) : b.toString();
    }

    private String spoilt(String text) {
        StringBuilder b = new StringBuilder(text);
        int place = random.nextInt(b.length());
        char sign = SIGNS.charAt(random.nextInt(SIGNS.length()));
        switch (random.nextInt(4)) {
            case 0: b.setCharAt(place, sign); break;
            case 1: b.insert(place, sign); break;
            case 2: b.deleteCharAt(place); break;
            default: b.setLength(place); break;
        }
        return b.toString();
    }

    private int number(int most) {
        return random.nextInt(40) == 0 ? WILD[random.nextInt(WILD.length)] : random.nextInt(most + 1);
    }

    private int who() {
        return number(random.nextInt(20) == 0 ? 9 : Math.max(0, y.count(0) - 1));
    }

    private void call(int which) {
        int p = who(), q = who(), k = number(4);
        switch (which) {
            case 0: one("letter", number(126)); break;
            case 1: due("fault()", x.fault(), y.fault()); break;
            case 2: one("ink", number(115)); break;
            case 3: two("kind", p, number(2)); break;
            case 4: two("as", p, number(2)); break;
            case 5: case 6: case 7: two("vouch", p, q); break;
            case 8: two("recall", p, q); break;
            case 9: case 10: two("bound", number(4), number(9)); break;
            case 11: one("about", number(7)); break;
            case 12: case 13: two("person", p, number(7)); break;
            case 14: two("vouches", p, q); break;
            case 15: due("generous()", x.generous(), y.generous()); break;
            case 16: one("trust", number(4)); break;
            case 17: one("together", number((1 << y.count(0)) - 1)); break;
            case 18: one("cut", number(2)); break;
            case 19: one("apart", p); break;
            case 20: three("without", p, q, number(2)); break;
            case 21: due("dearest()", x.dearest(), y.dearest()); break;
            case 22: three("chance", p, k, number(1)); break;
            case 23: two("thousandths", p, k); break;
            case 24: two(random.nextInt(9) == 0 ? "count" : "order", k, p); break;
            default: due("digest()", x.digest(), y.digest()); break;
        }
    }

    private void one(String name, int a) {
        String call = name + "(" + a + ")";
        switch (name) {
            case "letter": due(call, x.letter(a), y.letter(a)); break;
            case "ink": due(call, x.ink(a), y.ink(a)); break;
            case "about": due(call, x.about(a), y.about(a)); break;
            case "trust": due(call, x.trust(a), y.trust(a)); break;
            case "together": due(call, x.together(a), y.together(a)); break;
            case "cut": due(call, x.cut(a), y.cut(a)); break;
            case "apart": due(call, x.apart(a), y.apart(a)); break;
            default: throw new IllegalStateException(name);
        }
    }

    private void two(String name, int a, int b) {
        String call = name + "(" + a + ", " + b + ")";
        switch (name) {
            case "kind": due(call, x.kind(a, b), y.kind(a, b)); break;
            case "as": due(call, x.as(a, b), y.as(a, b)); break;
            case "vouch": due(call, x.vouch(a, b), y.vouch(a, b)); break;
            case "recall": due(call, x.recall(a, b), y.recall(a, b)); break;
            case "bound": due(call, x.bound(a, b), y.bound(a, b)); break;
            case "person": due(call, x.person(a, b), y.person(a, b)); break;
            case "vouches": due(call, x.vouches(a, b), y.vouches(a, b)); break;
            case "thousandths": due(call, x.thousandths(a, b), y.thousandths(a, b)); break;
            case "order": due(call, x.order(a, b), y.order(a, b)); break;
            case "count": due(call, x.count(a), y.count(a)); break;
            default: throw new IllegalStateException(name);
        }
    }

    private void three(String name, int a, int b, int c) {
        String call = name + "(" + a + ", " + b + ", " + c + ")";
        if (name.equals("without")) {
            due(call, x.without(a, b, c), y.without(a, b, c));
        } else {
            due(call, x.chance(a, b, c), y.chance(a, b, c));
        }
    }
}
