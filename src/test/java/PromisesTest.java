/** Each promise of the document: ordinary inputs, the edges that it names, and wrong inputs. */
public final class PromisesTest {
    private static final int NONE = -1, UNKNOWN = -101, OUTSIDE = -102, STATE = -103, FULL = -104;
    private static final int LEAST = Integer.MIN_VALUE, MOST = Integer.MAX_VALUE;

    /** A seed, two persons who are taken in, and false persons, one of whom is behind another. */
    private static final String ORDINARY = "6:421:*>1>2;>3>4;>4;!>5;!;!";
    /** Nobody is a seed. */
    private static final String SEEDLESS = "3:11:>1;>2;!>0";
    /** Every person has a mark and five vouches: five characters too many for a page. */
    private static final String LONGEST = "9:12345:*>1>2>3>4>5;*>0>2>3>4>5;*>0>1>3>4>5;*>0>1>2>4>5;*>0>1>2>3>5;"
            + "!>0>1>2>3>4;!>0>1>2>3>4;!>0>1>2>3>4;!>0>1>2>3>4";

    private final Checks c = new Checks();

    public static void main(String[] args) {
        PromisesTest t = new PromisesTest();
        t.newObject();
        t.letter();
        t.blank();
        t.fault();
        t.faultInVouches();
        t.circle();
        t.ink();
        t.kind();
        t.as();
        t.vouch();
        t.recall();
        t.bound();
        t.about();
        t.person();
        t.ways();
        t.vouches();
        t.generous();
        t.trust();
        t.together();
        t.cut();
        t.apart();
        t.without();
        t.dearest();
        t.chance();
        t.thousandths();
        t.order();
        t.count();
        t.digest();
        t.errorsChangeNothing();
        t.c.end();
    }

    private void newObject() {
        c.part("promise 1");
        VouchFlow x = new VouchFlow();
        for (int what = 0; what <= 4; what++) c.due("count(" + what + ")", x.count(what), 0);
        c.due("fault()", x.fault(), 0);
        c.due("circle()", x.circle(), STATE);
        c.due("ink(0)", x.ink(0), STATE);
        c.due("blank()", x.blank(), 0);
        VouchFlow other = Checks.read(ORDINARY);
        c.due("count(0) of another object", x.count(0), 0);
        c.due("count(0)", other.count(0), 6);
    }

    private void letter() {
        c.part("promise 2");
        VouchFlow x = new VouchFlow();
        for (int code : new int[] {LEAST, -1, 0, 31, 127, 128, MOST}) c.due("letter(" + code + ")", x.letter(code), OUTSIDE);
        c.due("count(1)", x.count(1), 0);
        c.due("letter(32)", x.letter(32), 1);
        c.due("letter(126)", x.letter(126), 2);
        for (int i = 3; i <= 110; i++) c.due("letter(57)", x.letter(57), i);
        c.due("letter(57)", x.letter(57), FULL);
        c.due("letter(31)", x.letter(31), OUTSIDE);
        c.due("letter(127)", x.letter(127), OUTSIDE);
        c.due("count(1)", x.count(1), 110);
    }

    private void blank() {
        c.part("promise 3");
        VouchFlow x = new VouchFlow();
        Checks.type(x, "abc");
        c.due("blank()", x.blank(), 3);
        c.due("blank()", x.blank(), 0);
        c.due("letter(65)", x.letter(65), 1);
        for (int i = 0; i < 200; i++) x.letter(65);
        c.due("blank()", x.blank(), 110);
        c.due("letter(65)", x.letter(65), 1);
    }

    /** The fault of a text that is whole as far as the sign before '^', which is not a part of it. */
    private void faultAt(String marked) {
        int due = marked.indexOf('^');
        String text = marked.replace("^", "");
        VouchFlow x = new VouchFlow();
        Checks.type(x, text);
        c.due("fault() of " + text, x.fault(), due);
        c.due("count(1)", x.count(1), text.length());
    }

    private void fault() {
        c.part("promise 4");
        for (String good : new String[] {"", "1", "9", "5:", "5:0", "5:01234", "5:01234:", "1:0:*", "1:9:!", "2:9:;", "2:9:*;!",
            "9:1:;;;;;;;;", "2:9:>1;>0", "3:9:>1>2;>0>2;>0>1", "7:1:*;*;*;*;*;!;!", "7:1:*;*;*;*;*;;"}) {
            faultAt(good + "^");
        }
        for (String bad : new String[] {"^0", "^:", "^ ", "^a", "^*", "1^0", "1^1", "1^;", "1:^:", "1:^;", "1:^a", "1:^ ", "1:0^;",
            "1:01234^5", "1:01234^;", "1:0^a", "1:0:^;", "1:0:^ ", "1:0:^:", "1:0:^0", "1:0:*^*", "1:0:*^!", "1:0:!^*", "1:0:!^;",
            "2:0:;^;", "2:0:*;!^;", "2:0:^1", "2:0:*^1", "9:1:;;;;;;;;^;", "7:1:*;*;*;*;*;^*", "7:1:*;*;*;*;*;!;^*"}) {
            faultAt(bad);
        }
    }

    private void faultInVouches() {
        c.part("promise 4, vouches");
        // a vouch cannot begin where nobody is left for whom this person could vouch
        for (String bad : new String[] {"1:0:^>", "1:0:*^>", "2:0:>1^>", "2:0:;>0^>", "3:0:;;>1^>", "3:0:;;>0>1^>0", "4:0:>3^>",
            "7:0:>1>2>3>4>5^>6", "9:0:;;>0>1>3>4>5^>"}) {
            faultAt(bad);
        }
        for (String bad : new String[] {"2:0:>^0", "2:0:>^2", "2:0:>^9", "2:0:>^>", "2:0:>^;", "2:0:>^*", "2:0:;>^1", "3:0:>2^>1",
            "4:0:>2>^2", "4:0:>2>^1", "4:0:>2>^0", "4:0:;>0>^1", "4:0:>1^2", "4:0:>1^*", "4:0:>1^!", "4:0:>1^:"}) {
            faultAt(bad);
        }
        for (String good : new String[] {"2:0:>", "2:0:;>", "3:0:;;>0>", "4:0:;;;>1>", "4:0:>2>", "7:0:>1>2>3>4>5", "7:0:>1>2>3>4>",
            "9:0:>4>5>6>7>8;>0>2>"}) {
            faultAt(good + "^");
        }
        // the page ends before this circle does
        faultAt(LONGEST.substring(0, 110) + "^");
        faultAt(LONGEST.substring(0, 109) + "^/");
    }

    private void circle() {
        c.part("promise 5");
        VouchFlow x = new VouchFlow();
        for (String text : new String[] {"", "3", "3:", "3:1", "3:1:", "3:1:;", "3:1:;;>", "3:1:;;;", "0:1:", "3::;;", "3:123456:;;",
            "3:1:;;>0>", "3:1:;;>0>1>", "7:1:*;*;*;*;*;*;", " 1:1:", "1:1: "}) {
            Checks.type(x, text);
            c.due("circle() of " + text, x.circle(), STATE);
            c.due("count(0)", x.count(0), 0);
            c.due("blank() after " + text, x.blank(), text.length());
        }
        Checks.type(x, ORDINARY);
        c.due("circle()", x.circle(), 6);
        c.due("blank()", x.blank(), 0);
        c.holds("ink() is the text", Checks.ink(x).equals(ORDINARY));
        Checks.type(x, "2:0:;");
        c.due("circle()", x.circle(), 2);
        c.holds("the former circle is gone", Checks.ink(x).equals("2:0:;"));
        c.due("person(0, 0)", x.person(0, 0), 0);
        c.due("person(0, 3)", x.person(0, 3), 0);
        c.due("person(2, 0)", x.person(2, 0), UNKNOWN);
        c.due("bound(1, 0)", x.bound(1, 0), UNKNOWN);
        Checks.type(x, "2:0:;;");
        c.due("circle()", x.circle(), STATE);
        c.due("count(0)", x.count(0), 2);
        c.due("count(2)", x.count(2), 2);
        for (String text : new String[] {"1:0:", "1:0:*", "1:01234:!", "9:1:;;;;;;;;", "7:1:*;*;*;*;*;!;!"}) {
            c.holds("reads " + text, Checks.ink(Checks.read(text)).equals(text));
        }
    }

    private void ink() {
        c.part("promise 6");
        VouchFlow x = new VouchFlow();
        for (int place : new int[] {LEAST, -1, 0, MOST}) c.due("ink(" + place + ")", x.ink(place), STATE);
        Checks.type(x, "3:17:*>1>2;!;>0");
        x.circle();
        for (int place : new int[] {LEAST, -1}) c.due("ink(" + place + ")", x.ink(place), UNKNOWN);
        for (int place : new int[] {15, 16, 110, 115, MOST}) c.due("ink(" + place + ")", x.ink(place), NONE);
        for (int i = 0; i < 15; i++) c.due("ink(" + i + ")", x.ink(i), "3:17:*>1>2;!;>0".charAt(i));
        x.kind(0, 2);
        x.kind(1, 0);
        x.vouch(2, 1);
        x.recall(0, 1);
        x.bound(1, 0);
        c.holds("ink() follows the changes", Checks.ink(x).equals("3:10:!>2;;>0>1"));
        c.holds("the longest text", Checks.ink(longest()).equals(LONGEST));
        c.due("ink(114)", longest().ink(114), '4');
        c.due("ink(115)", longest().ink(115), NONE);
    }

    private static VouchFlow longest() {
        VouchFlow x = Checks.read("9:12345:*;*;*;*;*;!;!;!;!");
        for (int by = 0; by < 9; by++) {
            for (int whom = 0; whom < 9; whom++) x.vouch(by, whom);
        }
        return x;
    }

    private void kind() {
        c.part("promise 7");
        VouchFlow x = new VouchFlow();
        c.due("kind(0, 3)", x.kind(0, 3), UNKNOWN);
        x = Checks.read("7:1:*>6;*;*;*;;!>0;");
        for (int p : new int[] {LEAST, -1, 7, 9, 32, MOST}) c.due("kind(" + p + ", 3)", x.kind(p, 3), UNKNOWN);
        for (int k : new int[] {LEAST, -1, 3, MOST}) c.due("kind(0, " + k + ")", x.kind(0, k), OUTSIDE);
        c.due("kind(4, 1)", x.kind(4, 1), 0);
        c.due("kind(5, 1)", x.kind(5, 1), FULL);
        c.due("kind(6, 1)", x.kind(6, 1), FULL);
        c.due("kind(4, 1) again", x.kind(4, 1), 1);
        c.due("person(5, 0)", x.person(5, 0), 2);
        c.due("kind(0, 2)", x.kind(0, 2), 1);
        c.due("kind(5, 1)", x.kind(5, 1), 2);
        c.due("kind(5, 0)", x.kind(5, 0), 1);
        c.due("kind(5, 2)", x.kind(5, 2), 0);
        c.due("vouches(0, 6)", x.vouches(0, 6), 1);
        c.due("vouches(5, 0)", x.vouches(5, 0), 1);
    }

    private void as() {
        c.part("promise 8");
        VouchFlow x = new VouchFlow();
        c.due("as(0, 0)", x.as(0, 0), UNKNOWN);
        x = Checks.read("3:1:;*;!");
        int[][] due = {{0, NONE, NONE}, {1, 1, NONE}, {2, NONE, 2}};
        for (int p = 0; p < 3; p++) {
            for (int k = 0; k < 3; k++) c.due("as(" + p + ", " + k + ")", x.as(p, k), due[p][k]);
        }
        for (int p : new int[] {LEAST, -1, 3, MOST}) c.due("as(" + p + ", 3)", x.as(p, 3), UNKNOWN);
        for (int k : new int[] {LEAST, -1, 3, MOST}) c.due("as(0, " + k + ")", x.as(0, k), OUTSIDE);
        x.kind(0, 2);
        c.due("as(0, 2)", x.as(0, 2), 2);
    }

    private void vouch() {
        c.part("promise 9");
        VouchFlow x = new VouchFlow();
        c.due("vouch(0, 1)", x.vouch(0, 1), UNKNOWN);
        x = Checks.read("8:1:*;;;;;;;>1");
        for (int p : new int[] {LEAST, -1, 8, 31, 32, MOST}) {
            c.due("vouch(" + p + ", 0)", x.vouch(p, 0), UNKNOWN);
            c.due("vouch(0, " + p + ")", x.vouch(0, p), UNKNOWN);
        }
        c.due("vouch(3, 3)", x.vouch(3, 3), UNKNOWN);
        c.due("vouch(7, 1)", x.vouch(7, 1), STATE);
        for (int i = 1; i <= 5; i++) c.due("vouch(0, " + (8 - i) + ")", x.vouch(0, 8 - i), i);
        c.due("vouch(0, 7)", x.vouch(0, 7), STATE);
        c.due("vouch(0, 2)", x.vouch(0, 2), FULL);
        c.due("vouch(0, 0)", x.vouch(0, 0), UNKNOWN);
        c.due("vouches(0, 2)", x.vouches(0, 2), 0);
        c.due("vouch(7, 0)", x.vouch(7, 0), 2);
        c.due("count(3)", x.count(3), 6);
    }

    private void recall() {
        c.part("promise 10");
        VouchFlow x = new VouchFlow();
        c.due("recall(0, 1)", x.recall(0, 1), UNKNOWN);
        x = Checks.read("3:1:*>1>2;>0;");
        for (int p : new int[] {LEAST, -1, 3, 32, MOST}) {
            c.due("recall(" + p + ", 0)", x.recall(p, 0), UNKNOWN);
            c.due("recall(0, " + p + ")", x.recall(0, p), UNKNOWN);
        }
        c.due("recall(1, 1)", x.recall(1, 1), UNKNOWN);
        c.due("recall(2, 0)", x.recall(2, 0), STATE);
        c.due("recall(0, 1)", x.recall(0, 1), 1);
        c.due("recall(0, 1)", x.recall(0, 1), STATE);
        c.due("vouches(1, 0)", x.vouches(1, 0), 1);
        c.due("recall(0, 2)", x.recall(0, 2), 0);
        c.due("count(4)", x.count(4), 2);
        c.due("vouch(0, 1)", x.vouch(0, 1), 1);
    }

    private void bound() {
        c.part("promise 11");
        VouchFlow x = new VouchFlow();
        c.due("bound(0, 0)", x.bound(0, 0), UNKNOWN);
        c.due("bound(0, 10)", x.bound(0, 10), UNKNOWN);
        x = Checks.read("2:31:*>1;");
        for (int place : new int[] {LEAST, -1, 2, 5, MOST}) c.due("bound(" + place + ", 10)", x.bound(place, 10), UNKNOWN);
        for (int v : new int[] {LEAST, -1, 10, MOST}) c.due("bound(1, " + v + ")", x.bound(1, v), OUTSIDE);
        c.due("bound(1, 9)", x.bound(1, 9), 1);
        c.due("bound(1, 0)", x.bound(1, 0), 9);
        c.due("bound(0, 5)", x.bound(0, 5), 3);
        c.due("person(0, 2)", x.person(0, 2), 5);
        c.due("person(1, 2)", x.person(1, 2), 0);
    }

    private void abouts(String text, int... due) {
        VouchFlow x = Checks.read(text);
        for (int what = 0; what <= 7; what++) c.due("about(" + what + ") of " + text, x.about(what), due[what]);
    }

    private void about() {
        c.part("promise 12");
        VouchFlow x = new VouchFlow();
        for (int what : new int[] {LEAST, -1, 8, MOST}) c.due("about(" + what + ")", x.about(what), OUTSIDE);
        for (int what = 0; what <= 7; what++) c.due("about(" + what + ")", x.about(what), STATE);
        abouts(ORDINARY, 6, 1, 3, 6, 3, 6, 3, 4 + 2 + 2 + 1 + 1);
        abouts(SEEDLESS, 3, 0, 1, 3, 2, 0, NONE, 0);
        abouts("1:9:*", 1, 1, 0, 0, 1, 1, 0, 9);
        abouts("9:12345:*>1;>2;>3;>4;>5;>6;>7;>8;", 9, 1, 0, 8, 5, 9, 8, 15);
        abouts("4:73:*;*>2;!>1;>2", 4, 2, 1, 3, 2, 3, 1, 17);
        x = Checks.read(ORDINARY);
        for (int what : new int[] {LEAST, -1, 8, MOST}) c.due("about(" + what + ")", x.about(what), OUTSIDE);
    }

    private void persons(String text, int person, int... due) {
        VouchFlow x = Checks.read(text);
        for (int what = 0; what <= 7; what++) {
            c.due("person(" + person + ", " + what + ") of " + text, x.person(person, what), due[what]);
        }
    }

    private void person() {
        c.part("promise 13");
        VouchFlow x = new VouchFlow();
        c.due("person(0, 8)", x.person(0, 8), UNKNOWN);
        x = Checks.read(ORDINARY);
        for (int p : new int[] {LEAST, -1, 6, 32, MOST}) c.due("person(" + p + ", 8)", x.person(p, 8), UNKNOWN);
        for (int what : new int[] {LEAST, -1, 8, MOST}) c.due("person(5, " + what + ")", x.person(5, what), OUTSIDE);
        persons(ORDINARY, 0, 1, 0, 4, 2, 0, 1, 0, NONE);
        persons(ORDINARY, 1, 0, 1, 2, 2, 1, 1, 1, 1);
        persons(ORDINARY, 4, 2, 2, 1, 0, 2, 0, 0, 1);
        persons(ORDINARY, 5, 2, 3, 0, 0, 1, 0, 0, 1);
        persons(SEEDLESS, 1, 0, NONE, 0, 1, 1, 0, 0, 0);
        // a seed keeps the one part that may come, so nothing goes on
        persons("2:19:*>1;", 0, 1, 0, 1, 1, 0, 1, 0, NONE);
        persons("2:19:*>1;", 1, 0, 1, 9, 0, 1, 0, 0, 1);
        // a seed with the limit 0 lets nothing in and is not taken in
        persons("2:09:*>1;!", 0, 1, 0, 0, 1, 0, 0, 0, NONE);
        persons("2:09:*>1;!", 1, 2, 1, 9, 0, 1, 0, 0, 1);
        // the small numbers come first, and nothing is left for the seed itself
        persons("3:21:>2;>2;*>0>1", 0, 0, 1, 1, 1, 1, 1, 0, 1);
        persons("3:21:>2;>2;*>0>1", 1, 0, 1, 1, 1, 1, 1, 0, 1);
        persons("3:21:>2;>2;*>0>1", 2, 1, 0, 2, 2, 2, 0, 0, NONE);
        // the part of 1 moves to the way by 3, so that 2 can be in; nothing is left for 3 and 4
        persons("5:911:*>2>3;!;>1>4;>1;", 1, 2, 2, 1, 0, 2, 1, 0, 1);
        persons("5:911:*>2>3;!;>1>4;>1;", 2, 0, 1, 1, 2, 1, 1, 1, 1);
        persons("5:911:*>2>3;!;>1>4;>1;", 3, 0, 1, 1, 1, 1, 0, 1, 1);
        persons("5:911:*>2>3;!;>1>4;>1;", 4, 0, 2, 1, 0, 1, 0, 0, 1);
    }

    private void waysOf(String text, int person, int ways) {
        c.due("person(" + person + ", 7) of " + text, Checks.read(text).person(person, 7), ways);
    }

    private void ways() {
        c.part("promise 13, ways");
        waysOf("6:1:*>5;*>5;*>5;*>5;*>5;", 5, 5);
        waysOf("6:1:*>5;*>0;*>0;*>0;*>0;", 5, 1);
        // the shortest path takes both middle persons' place if it is not turned round
        waysOf("6:1:*>2;*>3;>3>4;>5;>5;", 5, 2);
        // the first path, 0 2 6 7, must give up 2 and go by 3 and 5, for 6 is on the only path of 1
        waysOf("8:9:*>2>3;*>4;>6;>5;>6;>7;>7;", 7, 2);
        waysOf("5:1:*>1>2;>4;>3;>4;", 4, 1);
        // bounds of 0 hold back trust and no way
        waysOf("3:0:*>2;*>2;", 2, 2);
        waysOf("2:1:*;!", 1, 0);
        waysOf("3:1:*>1;>0>2;>1", 2, 1);
    }

    private void vouches() {
        c.part("promise 14");
        VouchFlow x = new VouchFlow();
        c.due("vouches(0, 1)", x.vouches(0, 1), UNKNOWN);
        x = Checks.read(ORDINARY);
        for (int p : new int[] {LEAST, -1, 6, 32, MOST}) {
            c.due("vouches(" + p + ", 0)", x.vouches(p, 0), UNKNOWN);
            c.due("vouches(0, " + p + ")", x.vouches(0, p), UNKNOWN);
        }
        c.due("vouches(5, 5)", x.vouches(5, 5), UNKNOWN);
        c.due("vouches(3, 5)", x.vouches(3, 5), 1);
        c.due("vouches(5, 3)", x.vouches(5, 3), 0);
    }

    private void generousIs(String text, int due) {
        c.due("generous() of " + text, Checks.read(text).generous(), due);
    }

    private void generous() {
        c.part("promise 15");
        c.due("generous()", new VouchFlow().generous(), STATE);
        generousIs("3:1:*;;", NONE);
        generousIs("3:1:*>1>2;;", 1);
        generousIs(ORDINARY, 1);
        generousIs("5:1:>1>2;>0>2;>0;>0;>1", 1);
        // 2/3 is less than 3/4; nobody vouches for those behind, and so they do not count
        generousIs("9:1:>2>3;>2>3>4;;;;>0>1;>0>1;>0>1;>1", 1);
        // of equal ones the smallest number, 1/2 like 2/4
        generousIs("4:1:>1;>0>2;>1>3;>2", 0);
        generousIs("9:1:>2;>2>3;;;>0>1;>0>1;>1;>1;", 0);
    }

    private void trusts(String text, int... due) {
        VouchFlow x = Checks.read(text);
        for (int what = 0; what <= 4; what++) c.due("trust(" + what + ") of " + text, x.trust(what), due[what]);
    }

    private void trust() {
        c.part("promise 16");
        VouchFlow x = new VouchFlow();
        for (int what : new int[] {LEAST, -1, 5, MOST}) c.due("trust(" + what + ")", x.trust(what), OUTSIDE);
        for (int what = 0; what <= 4; what++) c.due("trust(" + what + ")", x.trust(what), STATE);
        trusts(ORDINARY, 4, 1, 2, 4, 4);
        trusts(SEEDLESS, 0, 0, 0, 0, 0);
        // false persons bring another one in, and the plain person behind them
        trusts("4:9999:*>1;!>2;!>3;", 4, 2, 2, 9, 2);
        // without the false person's vouch the plain one is a level farther out, behind the last bound
        trusts("5:999:*>1>3;!>2;;>4;>2", 5, 1, 1, 9, 4);
        // a seed that vouches for false persons is taken in, and so is a person that no part is left for
        trusts("4:193:*>1>2;>3;!;!", 1, 0, 1, 10, 1);
        // the flood is not what comes in by the order of the numbers
        trusts("4:21:*>2>3;;!;!", 2, 1, 2, 2, 2);
    }

    private void together() {
        c.part("promise 17");
        VouchFlow x = new VouchFlow();
        for (int set : new int[] {LEAST, -1, 0, 1, MOST}) c.due("together(" + set + ")", x.together(set), STATE);
        x = Checks.read("4:21:*>1>2;>3;>3;");
        for (int set : new int[] {LEAST, -1, 16, 17, 512, 1 << 30, MOST}) c.due("together(" + set + ")", x.together(set), UNKNOWN);
        // level 2 has no bound
        int[] due = {1, 1, 1, 1, 1, 1, 1, 0, 0, 0, 0, 0, 0, 0, 0, 0};
        for (int set = 0; set < 16; set++) c.due("together(" + set + ")", x.together(set), due[set]);
        x = Checks.read("4:211:*>1>2;>3;>3;");
        int[] more = {1, 1, 1, 1, 1, 1, 1, 0, 1, 1, 1, 0, 1, 0, 0, 0};
        for (int set = 0; set < 16; set++) c.due("together(" + set + ")", x.together(set), more[set]);
        c.due("together(0)", Checks.read("1:0:*").together(0), 1);
        c.due("together(1)", Checks.read("1:0:*").together(1), 0);
        c.due("together(511)", Checks.read("9:9:*;*;*;*;*;;;;").together(511), 0);
        c.due("together(31)", Checks.read("9:9:*;*;*;*;*;;;;").together(31), 1);
        // the part of 5 must come by 1 and 4 instead of 0 and 2, so that 0 can give to 3 and 6
        c.due("together(96)", Checks.read("7:111:*>2>3;*>4;>5;>6;>5;;").together(96), 1);
        // trust that goes round two persons does not become more
        c.due("together(7)", Checks.read("3:299:*>1;>2;>1").together(7), 0);
        c.due("together(6)", Checks.read("3:299:*>1;>2;>1").together(6), 1);
        // a seed can have its part from another seed, within its limit
        c.due("together(7)", Checks.read("3:19:*>1;*>2;").together(7), 0);
    }

    private void cuts(String text, int... due) {
        VouchFlow x = Checks.read(text);
        for (int what = 0; what <= 2; what++) c.due("cut(" + what + ") of " + text, x.cut(what), due[what]);
    }

    private void cut() {
        c.part("promise 18");
        VouchFlow x = new VouchFlow();
        for (int what : new int[] {LEAST, -1, 3, MOST}) c.due("cut(" + what + ")", x.cut(what), OUTSIDE);
        for (int what = 0; what <= 2; what++) c.due("cut(" + what + ")", x.cut(what), STATE);
        cuts(ORDINARY, 2, 0b011000, 0b000111);
        cuts(SEEDLESS, 0, 0, 0);
        // nothing to hold: everybody whom trust reaches is reached
        cuts("3:999:*>1;>2;", 0, 0, 0b111);
        cuts("3:909:*>1;>2;!", 0, 0b010, 0b001);
        // who has the limit 0 is a wall without cost
        cuts("4:11:*>1;>2>3;!;!", 0, 0b1100, 0b0011);
        // the wall could stand at the seed or at the next one: the fewest are reached
        cuts("4:119:*>1;>2>3;!;!", 1, 0b0001, 0);
        // false persons with much trust cost 1 each when they are reached
        cuts("4:999:*>1>2;!;!>3;", 2, 0, 0b1111);
        cuts("3:499:*>1>2;!;!", 2, 0, 0b111);
        cuts("3:299:*>1>2;!;!", 2, 0b001, 0);
    }

    private void apartIs(String text, int person, int due) {
        c.due("apart(" + person + ") of " + text, Checks.read(text).apart(person), due);
    }

    private void apart() {
        c.part("promise 19");
        c.due("apart(0)", new VouchFlow().apart(0), UNKNOWN);
        VouchFlow x = Checks.read(ORDINARY);
        for (int p : new int[] {LEAST, -1, 6, 32, MOST}) c.due("apart(" + p + ")", x.apart(p), UNKNOWN);
        apartIs(ORDINARY, 0, NONE);
        apartIs(ORDINARY, 5, 0b000001);
        apartIs("6:1:*>5;*>5;*>5;*>5;*>5;", 5, 0b11111);
        apartIs("2:1:*;", 1, 0);
        apartIs("4:1:;>0;>1;*>2", 0, 0b0010);
        apartIs("5:1:;>0;>1;*>2;*>2", 0, 0b00010);
        // 1 and 2 are a smaller number than 0 and 5, and than the seeds
        apartIs("7:1:>6;>0>5;>0>5;*>1>2;*>1>2;>6;", 6, 0b0000110);
        apartIs("6:1:*>2;*>3;>3>4;>5;>5;", 5, 0b000011);
        apartIs("6:1:>5;>5;>0;>1;*>2>3;", 5, 0b010000);
        apartIs("7:1:>6;>6;>0;>1;*>2;*>3;", 6, 0b0000011);
        apartIs("3:0:*>2;*>2;", 2, 0b011);
    }

    private void without() {
        c.part("promise 20");
        c.due("without(0, 1, 3)", new VouchFlow().without(0, 1, 3), UNKNOWN);
        VouchFlow x = Checks.read(ORDINARY);
        for (int p : new int[] {LEAST, -1, 6, 32, MOST}) {
            c.due("without(" + p + ", 1, 3)", x.without(p, 1, 3), UNKNOWN);
            c.due("without(0, " + p + ", 3)", x.without(0, p, 3), UNKNOWN);
        }
        c.due("without(2, 2, 3)", x.without(2, 2, 3), UNKNOWN);
        c.due("without(1, 0, 3)", x.without(1, 0, 3), STATE);
        for (int what : new int[] {LEAST, -1, 3, MOST}) c.due("without(0, 1, " + what + ")", x.without(0, 1, what), OUTSIDE);
        c.due("without(0, 1, 0)", x.without(0, 1, 0), 3);
        c.due("without(0, 1, 1)", x.without(0, 1, 1), 1);
        c.due("without(0, 1, 2)", x.without(0, 1, 2), NONE);
        c.due("without(1, 4, 2)", x.without(1, 4, 2), 2);
        c.holds("nothing changes", Checks.ink(x).equals(ORDINARY));
        c.due("count(4)", x.count(4), 0);
        x = Checks.read("3:999:*>1>2;>2;");
        c.due("without(0, 2, 2)", x.without(0, 2, 2), 2);
        c.due("without(0, 2, 0)", x.without(0, 2, 0), 3);
        // person 0 is a level farther out then, and has a higher limit there: more are in
        x = Checks.read("8:9299:>1>5>6;;*>0>3>4>7;>0;>0;;;>0");
        c.due("trust(0)", x.trust(0), 6);
        c.due("without(2, 0, 0)", x.without(2, 0, 0), 7);
        c.due("without(2, 0, 2)", x.without(2, 0, 2), 2);
        // a seed's level stays
        c.due("without(1, 0, 2)", Checks.read("2:99:*>1;>0").without(1, 0, 2), 0);
    }

    private void dearestIs(String text, int due) {
        c.due("dearest() of " + text, Checks.read(text).dearest(), due);
    }

    private void dearest() {
        c.part("promise 21");
        c.due("dearest()", new VouchFlow().dearest(), STATE);
        dearestIs("2:1:*;", NONE);
        dearestIs("2:1:;>0", 10);
        dearestIs("5:99999:*>1>2;;>3;>4;", 2);
        dearestIs("5:99999:>1;;>0;>2>4;*>3", 43);
        // none makes a difference: the smallest numbers
        dearestIs("3:90:>1;;*>0", 1);
        dearestIs("8:9299:>1>5>6;;*>0>3>4>7;>0;>0;;;>0", 23);
        dearestIs("9:99999:;;;;;;;>6;*>5>7", 87);
    }

    private void chances(String text, int k, int... due) {
        VouchFlow x = Checks.read(text);
        for (int p = 0; 2 * p < due.length; p++) {
            c.due("chance(" + p + ", " + k + ", 0) of " + text, x.chance(p, k, 0), due[2 * p]);
            c.due("chance(" + p + ", " + k + ", 1) of " + text, x.chance(p, k, 1), due[2 * p + 1]);
        }
    }

    private void chance() {
        c.part("promise 22");
        c.due("chance(0, 5, 2)", new VouchFlow().chance(0, 5, 2), UNKNOWN);
        VouchFlow x = Checks.read(SEEDLESS);
        for (int p : new int[] {LEAST, -1, 3, 32, MOST}) c.due("chance(" + p + ", 5, 2)", x.chance(p, 5, 2), UNKNOWN);
        for (int bad : new int[] {LEAST, -1, 5, MOST}) c.due("chance(0, " + bad + ", 0)", x.chance(0, bad, 0), OUTSIDE);
        for (int bad : new int[] {LEAST, -1, 2, MOST}) c.due("chance(0, 0, " + bad + ")", x.chance(0, 0, bad), OUTSIDE);
        c.due("chance(0, 0, 0)", x.chance(0, 0, 0), STATE);
        String text = "4:1:*>1>2;*;>3;>0>1>2";
        chances(text, 0, 1, 2, 1, 2, 0, 1, 0, 1);
        chances(text, 1, 1, 4, 1, 2, 1, 4, 0, 1);
        chances(text, 2, 1, 4, 3, 8, 1, 8, 1, 4);
        chances(text, 3, 13, 48, 19, 48, 5, 24, 1, 8);
        chances(text, 4, 23, 96, 3, 8, 17, 96, 5, 24);
        // nobody vouches for the last three of these
        VouchFlow wide = longest();
        c.due("chance(8, 4, 0)", wide.chance(8, 4, 0), 0);
        c.due("chance(8, 4, 1)", wide.chance(8, 4, 1), 1);
        // four of the five seeds vouch for nobody, and the walk goes from them to a seed again
        String ring = "9:1:*>1>5>6>7>8;*;*;*;*;>0>1>2>3>6;>0>1>2>3>7;>0>1>2>3>8;>0>1>2>3>4";
        chances(ring, 1, 4, 25, 1, 5, 4, 25, 4, 25, 4, 25, 1, 25, 1, 25, 1, 25, 1, 25);
        chances("1:0:*", 4, 1, 1);
        chances("6:0:*;*;*;*;*;", 4, 1, 5, 1, 5, 1, 5, 1, 5, 1, 5, 0, 1);
    }

    private void thousandths() {
        c.part("promise 23");
        c.due("thousandths(0, 5)", new VouchFlow().thousandths(0, 5), UNKNOWN);
        VouchFlow x = Checks.read(SEEDLESS);
        for (int p : new int[] {LEAST, -1, 3, 32, MOST}) c.due("thousandths(" + p + ", 5)", x.thousandths(p, 5), UNKNOWN);
        for (int k : new int[] {LEAST, -1, 5, MOST}) c.due("thousandths(0, " + k + ")", x.thousandths(0, k), OUTSIDE);
        c.due("thousandths(0, 4)", x.thousandths(0, 4), STATE);
        x = Checks.read("4:1:*>1>2;*;>3;>0>1>2");
        int[][] due = {{500, 500, 0, 0}, {250, 500, 250, 0}, {250, 375, 125, 250}, {270, 395, 208, 125}, {239, 375, 177, 208}};
        for (int k = 0; k <= 4; k++) {
            for (int p = 0; p < 4; p++) c.due("thousandths(" + p + ", " + k + ")", x.thousandths(p, k), due[k][p]);
        }
        // two thirds are rounded down
        c.due("thousandths(3, 1)", Checks.read("4:1:*>3;*>3;*>0;").thousandths(3, 1), 666);
    }

    private void order() {
        c.part("promise 24");
        VouchFlow x = new VouchFlow();
        for (int k : new int[] {LEAST, -1, 5, MOST}) c.due("order(" + k + ", -1)", x.order(k, -1), OUTSIDE);
        c.due("order(0, -1)", x.order(0, -1), STATE);
        x = Checks.read(SEEDLESS);
        c.due("order(5, -1)", x.order(5, -1), OUTSIDE);
        c.due("order(4, -1)", x.order(4, -1), STATE);
        x = Checks.read("4:1:*>1>2;*;>3;>0>1>2");
        for (int place : new int[] {LEAST, -1, 4, MOST}) c.due("order(4, " + place + ")", x.order(4, place), UNKNOWN);
        int[][] due = {{0, 1, 2, 3}, {1, 0, 2, 3}, {1, 0, 3, 2}, {1, 0, 2, 3}, {1, 0, 3, 2}};
        for (int k = 0; k <= 4; k++) {
            for (int i = 0; i < 4; i++) c.due("order(" + k + ", " + i + ")", x.order(k, i), due[k][i]);
        }
    }

    private void count() {
        c.part("promise 25");
        VouchFlow x = new VouchFlow();
        for (int what : new int[] {LEAST, -1, 5, MOST}) c.due("count(" + what + ")", x.count(what), OUTSIDE);
        Checks.type(x, "3:1:*;;");
        c.due("count(1)", x.count(1), 7);
        c.due("count(2)", x.count(2), 0);
        x.circle();
        c.due("count(0)", x.count(0), 3);
        c.due("count(1)", x.count(1), 0);
        c.due("count(2)", x.count(2), 1);
        x.vouch(0, 1);
        x.vouch(0, 1);
        x.vouch(0, 2);
        x.recall(0, 1);
        x.recall(0, 1);
        c.due("count(3)", x.count(3), 2);
        c.due("count(4)", x.count(4), 1);
        Checks.type(x, "2:1:>1;");
        x.circle();
        c.due("count(0)", x.count(0), 2);
        c.due("count(2)", x.count(2), 2);
        c.due("count(3) after another circle", x.count(3), 2);
        c.due("count(4) after another circle", x.count(4), 1);
    }

    private void digest() {
        c.part("promise 26");
        long empty = 1553L * 31 * 31 * 31 * 31 * 31;
        VouchFlow x = new VouchFlow();
        c.due("digest()", x.digest(), empty);
        x.letter('7');
        c.due("digest()", x.digest(), (((((1553L * 31 + '7') * 31) * 31 + 1) * 31) * 31) * 31);
        x.blank();
        c.due("digest()", x.digest(), empty);
        for (String text : new String[] {ORDINARY, SEEDLESS, "1:0:", "2:1:*;", "9:12345:*>1;>2;>3;>4;>5;>6;>7;>8;"}) {
            VouchFlow y = Checks.read(text);
            y.letter('!');
            y.letter('~');
            c.due("digest() of " + text, y.digest(), digestByCalls(y, "!~"));
        }
        c.due("digest() of the longest", longest().digest(), digestByCalls(longest(), ""));
    }

    private static long digestByCalls(VouchFlow x, String page) {
        long h = 1553;
        for (int i = 0; x.ink(i) != NONE; i++) h = 31 * h + x.ink(i);
        for (int what = 0; what <= 7; what++) h = 31 * h + x.about(what);
        for (int p = 0; p < x.count(0); p++) {
            for (int what = 0; what <= 7; what++) h = 31 * h + x.person(p, what);
            h = 31 * h + x.apart(p);
        }
        h = 31 * h + x.generous();
        for (int what = 0; what <= 4; what++) h = 31 * h + x.trust(what);
        for (int what = 0; what <= 2; what++) h = 31 * h + x.cut(what);
        int dear = x.dearest();
        h = 31 * h + dear;
        for (int what = 0; what <= 2 && dear != NONE; what++) h = 31 * h + x.without(dear / 10, dear % 10, what);
        for (int k = 0; k <= 4 && x.about(1) > 0; k++) {
            for (int p = 0; p < x.count(0); p++) {
                h = 31 * h + x.chance(p, k, 0);
                h = 31 * h + x.chance(p, k, 1);
                h = 31 * h + x.thousandths(p, k);
            }
            for (int i = 0; i < x.count(0); i++) h = 31 * h + x.order(k, i);
        }
        for (char sign : page.toCharArray()) h = 31 * h + sign;
        for (int what = 0; what <= 4; what++) h = 31 * h + x.count(what);
        return h;
    }

    private void errorsChangeNothing() {
        c.part("errors change nothing");
        VouchFlow x = longest();
        x.letter('9');
        long before = x.digest();
        x.letter(127);
        x.circle();
        x.ink(-1);
        x.kind(8, 1);
        x.kind(8, 3);
        x.kind(9, 0);
        x.vouch(0, 8);
        x.vouch(0, 1);
        x.vouch(0, 0);
        x.recall(0, 8);
        x.recall(0, 9);
        x.bound(0, 10);
        x.bound(5, 0);
        x.without(0, 1, 3);
        x.without(0, 1, 0);
        x.together(512);
        c.due("digest()", x.digest(), before);
    }
}
