/** Counts answers that are not the ones that are due, and ends a test with exit code 1 if there are any. */
final class Checks {
    private int made;
    private int wrong;
    private String part = "";

    void part(String name) {
        part = name;
    }

    void due(String call, long got, long want) {
        made++;
        if (got != want) {
            wrong++;
            if (wrong <= 50) {
                System.out.println(part + ": " + call + " answered " + got + ", due is " + want);
            }
        }
    }

    void holds(String what, boolean holds) {
        due(what, holds ? 1 : 0, 1);
    }

    boolean clean() {
        return wrong == 0;
    }

    void end() {
        System.out.println(made + " answers, " + wrong + " of them not as due");
        if (wrong != 0 || made == 0) {
            System.exit(1);
        }
    }

    /** Writes a text on the page, without a look at the answers. */
    static void type(VouchFlow x, String text) {
        for (int i = 0; i < text.length(); i++) {
            x.letter(text.charAt(i));
        }
    }

    /** A new object with the circle of a text. */
    static VouchFlow read(String text) {
        VouchFlow x = new VouchFlow();
        type(x, text);
        if (x.circle() < 1) {
            throw new IllegalStateException("not a circle: " + text);
        }
        return x;
    }

    /** The text of the present circle, by ink(). */
    static String ink(VouchFlow x) {
        StringBuilder text = new StringBuilder();
        for (int i = 0; x.ink(i) >= 0; i++) {
            text.append((char) x.ink(i));
        }
        return text.toString();
    }
}
