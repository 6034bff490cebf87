import java.math.BigInteger;
import java.util.ArrayList;
import java.util.List;

/** The clauses of the promises 22 to 26: walks, counts and the hash. */
public final class WalkClausesTest {
    private static final int NONE = Clauses.NONE, UNKNOWN = Clauses.UNKNOWN, OUTSIDE = Clauses.OUTSIDE,
            STATE = Clauses.STATE, FULL = Clauses.FULL, LEAST = Clauses.LEAST, MOST = Clauses.MOST;

    private static final String ORDINARY = "6:421:*>1>2;>3>4;>4;!>5;!;!";
    private static final String WALKED = "4:1:*>1>2;*;>3;>0>1>2";
    private static final String SEEDLESS = "3:11:>1;>2;!>0";
    private static final String NINE = "9:12345:*>1>2>3>4>5;*;*;*;*;>6;>7;>8;>0";
    /** Only one way of four steps leads to the last person, with 1/5 for the beginning and for each step. */
    private static final String RARE = "9:0:*>1>2>3>4>5;*;*;*;*;>0>1>2>3>6;>0>1>2>3>7;>0>1>2>3>8;";
    private static final int[] NOBODY = Clauses.NOBODY;

    private final Clauses c = new Clauses();

    public static void main(String[] args) {
        WalkClausesTest t = new WalkClausesTest();
        t.chance();
        t.chanceRefused();
        t.thousandths();
        t.order();
        t.count();
        t.digest();
        t.digestParts();
        t.c.end("Promise 22", "Promise 23", "Promise 24", "Promise 25", "Promise 26");
    }

    /** The chance of a person after k steps is a / b. */
    private void chances(String text, int person, int k, int a, int b) {
        c.dueInTurn(c.read(text), "chance(" + person + ", " + k + ", #)", a, b, OUTSIDE);
    }

    private void chance() {
        c.section("Promise 22");
        c.says("Returns a chance, a fraction in lowest terms (0 is 0 / 1)");
        chances("1:0:*", 0, 0, 1, 1);
        chances("1:0:*", 0, 4, 1, 1);
        chances("2:0:*;", 1, 0, 0, 1);
        chances("2:0:*;", 1, 4, 0, 1);
        // 2/4, and 4/16 + 2/16
        chances("5:0:*>4;*>4;*;*;", 4, 1, 1, 2);
        chances("4:0:*;*;*>3;*>1", 1, 1, 3, 8);
        c.says("`person`: number of the person");
        chances("9:0:*;;;;;;;;", 0, 0, 1, 1);
        chances("9:0:;;;;;;;;*", 8, 0, 1, 1);
        c.says("`k`: number of steps, 0 to 4");
        String chain = "6:0:*>1;>2;>3;>4;>5;";
        for (int k = 0; k <= 4; k++) {
            for (int person = 0; person < 6; person++) {
                chances(chain, person, k, person == k ? 1 : 0, 1);
            }
        }
        c.says("`what`: 0 for the numerator, 1 for the denominator");
        c.due(c.read(WALKED), "chance(0, 4, 0)", 23);
        c.due(c.read(WALKED), "chance(0, 4, 1)", 96);
        c.says("Returns the numerator or denominator");
        chances(WALKED, 1, 3, 19, 48);
        // five ways at the beginning and in each of four steps
        chances(RARE, 8, 4, 1, 3125);
        chances("9:0:*>5>6>7>8;*>5;*>5;*>5;*>5;>0>1>2>3>4;>5;>5;>5", 5, 1, 17, 20);
        chances("9:0:*>4>5>6>7>8;*>4>5>6>7>8;*>4>5>6>7>8;*>4>5>6>7>8;*>0>1>2>3>5;;;;", 4, 1, 4, 25);
    }

    private void chanceRefused() {
        c.says("UNKNOWN if there is no such person");
        for (String rest : new String[] {"0, 0", "4, 1", "5, 0", "-1, 0", "0, 2", "0, -1", "5, 2"}) {
            c.dueForEach(new VouchFlow(), "chance(#, " + rest + ")", UNKNOWN, 0, 1, -1);
            c.dueForEach(c.read("1:0:*"), "chance(#, " + rest + ")", UNKNOWN, -1, 1, LEAST, MOST, 32);
            c.dueForEach(c.read(SEEDLESS), "chance(#, " + rest + ")", UNKNOWN, -1, 3, LEAST, MOST);
            c.dueForEach(c.read(NINE), "chance(#, " + rest + ")", UNKNOWN, NOBODY);
        }
        c.says("OUTSIDE if k or what is out of range");
        for (String text : new String[] {WALKED, SEEDLESS}) {
            c.dueForEach(c.read(text), "chance(0, #, 0)", OUTSIDE, -1, 5, LEAST, MOST, 6, 256, 65536, LEAST + 4);
            c.dueForEach(c.read(text), "chance(0, #, 1)", OUTSIDE, -1, 5, LEAST, MOST);
            c.dueForEach(c.read(text), "chance(0, 0, #)", OUTSIDE, -1, 2, LEAST, MOST, 3, 256, 65536, LEAST + 1);
            c.dueForEach(c.read(text), "chance(0, 4, #)", OUTSIDE, -1, 2, LEAST, MOST);
            c.dueForEach(c.read(text), "chance(0, #, 2)", OUTSIDE, -1, 5, LEAST, MOST);
        }
        c.says("STATE if there are no seeds");
        c.dueForEach(c.read(SEEDLESS), "chance(#, 0, 0)", STATE, 0, 1, 2);
        c.dueForEach(c.read(SEEDLESS), "chance(0, #, 1)", STATE, 0, 1, 2, 3, 4);
        VouchFlow x = c.read("1:0:*");
        c.due(x, "kind(0, 2)", 1);
        c.due(x, "chance(0, 0, 0)", STATE);
        c.due(x, "kind(0, 1)", 2);
        c.due(x, "chance(0, 0, 0)", 1);
    }

    private void thousandths() {
        c.section("Promise 23");
        c.says("Returns 1000 times a chance, rounded down", "Returns the number");
        c.dueInTurn(c.read(WALKED), "thousandths(#, 3)", 270, 395, 208, 125, UNKNOWN);
        // 1/3 and 2/3, 1/6, and 1/8 without a rest
        c.due(c.read("3:0:*;*;*"), "thousandths(2, 0)", 333);
        c.due(c.read("4:0:*>3;*>3;*>0;"), "thousandths(3, 1)", 666);
        c.due(c.read("5:0:*>3>4;*>0;*>0;;"), "thousandths(3, 1)", 166);
        c.due(c.read("1:0:*"), "thousandths(0, 4)", 1000);
        c.due(c.read("2:0:*;"), "thousandths(1, 4)", 0);
        // 1/3125 is less than a thousandth
        c.dueInTurn(c.read(RARE), "thousandths(8, #)", 0, 0, 0, 0, 0);
        c.says("`person`: number of the person");
        c.due(c.read("9:0:*;;;;;;;;"), "thousandths(0, 0)", 1000);
        c.due(c.read("9:0:;;;;;;;;*"), "thousandths(8, 0)", 1000);
        c.says("`k`: number of steps, 0 to 4");
        c.dueInTurn(c.read("6:0:*>1;>2;>3;>4;>5;"), "thousandths(0, #)", 1000, 0, 0, 0, 0, OUTSIDE);
        c.dueInTurn(c.read("6:0:*>1;>2;>3;>4;>5;"), "thousandths(4, #)", 0, 0, 0, 0, 1000, OUTSIDE);
        c.says("UNKNOWN if there is no such person");
        for (int k : new int[] {0, 4, 5, -1}) {
            c.dueForEach(new VouchFlow(), "thousandths(#, " + k + ")", UNKNOWN, 0, 1, -1);
            c.dueForEach(c.read("1:0:*"), "thousandths(#, " + k + ")", UNKNOWN, -1, 1, LEAST, MOST, 32);
            c.dueForEach(c.read(SEEDLESS), "thousandths(#, " + k + ")", UNKNOWN, -1, 3, LEAST, MOST);
            c.dueForEach(c.read(NINE), "thousandths(#, " + k + ")", UNKNOWN, NOBODY);
        }
        c.says("OUTSIDE if k is out of range");
        c.dueForEach(c.read(WALKED), "thousandths(3, #)", OUTSIDE, -1, 5, LEAST, MOST, 6, 256, 65536, LEAST + 4);
        c.dueForEach(c.read(SEEDLESS), "thousandths(0, #)", OUTSIDE, -1, 5, LEAST, MOST);
        c.says("STATE if there are no seeds");
        c.dueForEach(c.read(SEEDLESS), "thousandths(0, #)", STATE, 0, 1, 2, 3, 4);
        c.due(c.read("1:9:!"), "thousandths(0, 0)", STATE);
    }

    private void order() {
        c.section("Promise 24");
        c.says("Returns a person of the order", "Returns the person");
        c.dueInTurn(c.read(WALKED), "order(4, #)", 1, 0, 3, 2, UNKNOWN);
        c.dueInTurn(c.read("9:0:;;;;;;;;*>3"), "order(1, #)", 3, 0, 1, 2, 4, 5, 6, 7, 8, UNKNOWN);
        c.says("`k`: number of steps, 0 to 4");
        c.dueInTurn(c.read("6:0:*>1;>2;>3;>4;>5;"), "order(#, 0)", 0, 1, 2, 3, 4, OUTSIDE);
        c.says("`place`: index in the order, from 0");
        c.dueInTurn(c.read("1:0:*"), "order(4, #)", 0, UNKNOWN);
        c.dueInTurn(c.read("9:0:;;;;;;;;*"), "order(0, #)", 8, 0, 1, 2, 3, 4, 5, 6, 7, UNKNOWN);
        c.says("OUTSIDE if k is out of range");
        for (String place : new String[] {"0", "-1", "9"}) {
            c.dueForEach(c.read(WALKED), "order(#, " + place + ")", OUTSIDE, -1, 5, LEAST, MOST, 6, 256, 65536, LEAST + 4);
            c.dueForEach(c.read(SEEDLESS), "order(#, " + place + ")", OUTSIDE, -1, 5, LEAST, MOST);
            c.dueForEach(new VouchFlow(), "order(#, " + place + ")", OUTSIDE, -1, 5, LEAST, MOST);
        }
        c.says("STATE if there is no circle, or there are no seeds");
        for (int k = 0; k <= 4; k++) {
            c.dueForEach(new VouchFlow(), "order(" + k + ", #)", STATE, 0, -1, 9, LEAST, MOST);
            c.dueForEach(c.read(SEEDLESS), "order(" + k + ", #)", STATE, 0, 2, 3, -1, 9, LEAST, MOST);
        }
        c.due(c.typed("1:0:*"), "order(0, 0)", STATE);
        c.says("UNKNOWN if there is no such index");
        c.dueForEach(c.read("1:0:*"), "order(0, #)", UNKNOWN, -1, 1, 8, 9, LEAST, MOST, 32);
        c.dueForEach(c.read(WALKED), "order(4, #)", UNKNOWN, -1, 4, LEAST, MOST);
        c.dueForEach(c.read(NINE), "order(4, #)", UNKNOWN, NOBODY);
    }

    private void count() {
        c.section("Promise 25");
        c.says("Returns a count", "Returns the count");
        VouchFlow x = c.read("2:0:*;");
        c.due(x, "vouch(0, 1)", 1);
        c.due(x, "vouch(1, 0)", 1);
        c.due(x, "recall(0, 1)", 0);
        c.type(x, "12345");
        c.dueInTurn(x, "count(#)", 2, 5, 1, 2, 1, OUTSIDE);
        c.says("`what`: 0: persons, 0 without a circle");
        c.due(new VouchFlow(), "count(0)", 0);
        c.due(c.typed("9:0:;;;;;;;;"), "count(0)", 0);
        c.due(c.read("1:0:"), "count(0)", 1);
        c.due(c.read(NINE), "count(0)", 9);
        c.says("1: characters on the page");
        c.due(c.typed(""), "count(1)", 0);
        c.due(c.typed("x".repeat(110)), "count(1)", 110);
        // what is refused does not come on the page
        c.due(c.typed("x".repeat(111)), "count(1)", 110);
        c.due(c.typed("1\u007f\u001f:\n"), "count(1)", 2);
        c.due(c.read(NINE), "count(1)", 0);
        c.says("2: how often a circle was read");
        x = new VouchFlow();
        for (int many = 0; many <= 20; many++) {
            c.due(x, "count(2)", many);
            c.due(x, "circle()", STATE);
            c.due(x, "count(2)", many);
            c.type(x, "1:0:");
            c.due(x, "circle()", 1);
        }
        c.says("3: how often vouch() has added a vouch");
        countVouches();
        c.says("4: how often recall() has removed one");
        countRecalls();
        c.says("OUTSIDE if what is out of range");
        c.dueForEach(c.read(ORDINARY), "count(#)", OUTSIDE, -1, 5, LEAST, MOST, 6, 256, 65536, LEAST + 4);
        c.dueForEach(new VouchFlow(), "count(#)", OUTSIDE, -1, 5, LEAST, MOST);
    }

    private void countVouches() {
        // those of a text are not added by vouch()
        VouchFlow x = c.read("7:0:>1>2>3>4>5;;;;;;>0>1>2>3");
        c.due(x, "count(3)", 0);
        c.due(x, "vouch(6, 4)", 5);
        c.due(x, "vouch(6, 4)", STATE);
        c.due(x, "vouch(6, 5)", FULL);
        c.due(x, "vouch(6, 6)", UNKNOWN);
        c.due(x, "vouch(6, 7)", UNKNOWN);
        c.due(x, "count(3)", 1);
        c.due(x, "recall(6, 4)", 4);
        c.due(x, "count(3)", 1);
        c.due(x, "vouch(6, 4)", 5);
        c.due(x, "count(3)", 2);
        c.type(x, "2:0:;");
        c.due(x, "circle()", 2);
        c.due(x, "count(3)", 2);
    }

    private void countRecalls() {
        VouchFlow x = c.read("3:0:>1>2;;");
        c.due(x, "count(4)", 0);
        c.due(x, "recall(0, 1)", 1);
        c.due(x, "recall(0, 1)", STATE);
        c.due(x, "recall(0, 0)", UNKNOWN);
        c.due(x, "recall(0, 3)", UNKNOWN);
        c.due(x, "count(4)", 1);
        c.due(x, "without(0, 2, 0)", 0);
        c.due(x, "count(4)", 1);
        // the vouches of the former circle are not removed by recall()
        c.type(x, "2:0:;");
        c.due(x, "circle()", 2);
        c.due(x, "count(4)", 1);
    }

    // ---- the hash

    /** The results that the hash is made of, in groups as the document has them. */
    private static List<List<Integer>> groups(VouchFlow x, String page) {
        List<List<Integer>> all = new ArrayList<>();
        for (int i = 0; i <= 9; i++) {
            all.add(new ArrayList<>());
        }
        int persons = x.count(0);
        if (persons > 0) {
            for (char sign : Checks.ink(x).toCharArray()) all.get(0).add((int) sign);
            for (int what = 0; what <= 7; what++) all.get(1).add(x.about(what));
            for (int p = 0; p < persons; p++) {
                for (int what = 0; what <= 7; what++) all.get(2).add(x.person(p, what));
                all.get(2).add(x.apart(p));
            }
            all.get(3).add(x.generous());
            for (int what = 0; what <= 4; what++) all.get(4).add(x.trust(what));
            for (int what = 0; what <= 2; what++) all.get(5).add(x.cut(what));
            int dear = x.dearest();
            all.get(6).add(dear);
            for (int what = 0; what <= 2 && dear != NONE; what++) all.get(6).add(x.without(dear / 10, dear % 10, what));
        }
        for (int k = 0; k <= 4 && x.about(1) > 0; k++) {
            for (int p = 0; p < persons; p++) {
                all.get(7).add(x.chance(p, k, 0));
                all.get(7).add(x.chance(p, k, 1));
                all.get(7).add(x.thousandths(p, k));
            }
            for (int place = 0; place < persons; place++) all.get(7).add(x.order(k, place));
        }
        for (char sign : page.toCharArray()) all.get(8).add((int) sign);
        for (int what = 0; what <= 4; what++) all.get(9).add(x.count(what));
        return all;
    }

    /** The hash by numbers without bounds, of which a long keeps the last 64 bits. */
    private static long hash(List<List<Integer>> groups) {
        BigInteger h = BigInteger.valueOf(1553);
        for (List<Integer> group : groups) {
            for (int result : group) {
                h = h.multiply(BigInteger.valueOf(31)).add(BigInteger.valueOf(result));
            }
        }
        return h.longValue();
    }

    private VouchFlow withPage(String text, String page) {
        VouchFlow x = c.read(text);
        c.type(x, page);
        return x;
    }

    private void digest() {
        c.section("Promise 26");
        c.says("Returns a hash", "Returns the hash");
        // a new object has but the counts 0, 0, 0, 0, 0
        c.due(new VouchFlow(), "digest()", 44461071503L);
        c.says("It is 1553 at first");
        c.due(new VouchFlow(), "digest()", 1553L * 28629151);
        c.says("for each of the following results, in this order, it becomes 31 times itself plus the result (long arithmetic"
                + " with overflow)");
        // two characters more than the 8 that a long has room for, and a full page
        for (String page : new String[] {"~", "~~", "~~~~~~~", "~~~~~~~~", "~~~~~~~~~", "~~~~~~~~~~", "~".repeat(110)}) {
            BigInteger h = BigInteger.valueOf(1553);
            for (int i = 0; i < page.length(); i++) {
                h = h.multiply(BigInteger.valueOf(31)).add(BigInteger.valueOf(126));
            }
            for (int count : new int[] {0, page.length(), 0, 0, 0}) {
                h = h.multiply(BigInteger.valueOf(31)).add(BigInteger.valueOf(count));
            }
            c.due(c.typed(page), "digest()", h.longValue());
        }
        // the order of the characters counts, and the answer is the same each time
        c.holds("12 and 21 differ", c.typed("12").digest() != c.typed("21").digest());
        VouchFlow x = withPage(ORDINARY, "12");
        long once = x.digest();
        c.due(x, "digest()", once);
        c.due(x, "blank()", 2);
        c.type(x, "12");
        c.due(x, "digest()", once);
    }

    /** Under the last clause, with the group of results that it names and no longer without it. */
    private void hashNeeds(int group, String text, String page) {
        List<List<Integer>> groups = groups(c.read(text), page);
        // the page of this one is empty yet
        groups.get(9).set(1, page.length());
        VouchFlow x = withPage(text, page);
        c.due(x, "digest()", hash(groups));
        c.holds("the clause asks for something here", !groups.get(group).isEmpty());
        for (int i = 0; i < groups.get(group).size(); i++) {
            int left = groups.get(group).remove(i);
            c.holds("result " + i + " is a part", x.digest() != hash(groups));
            groups.get(group).add(i, left + 1);
            c.holds("result " + i + " counts", x.digest() != hash(groups));
            groups.get(group).set(i, left);
        }
    }

    private void digestParts() {
        c.says("If there is a circle: ink() of all its characters");
        hashNeeds(0, "1:0:", "");
        hashNeeds(0, ORDINARY, "~");
        c.says("about() for 0 to 7");
        hashNeeds(1, ORDINARY, "");
        c.says("for each person person() for 0 to 7, and apart()");
        hashNeeds(2, ORDINARY, "");
        hashNeeds(2, "1:0:", "");
        c.says("generous()");
        hashNeeds(3, ORDINARY, "");
        hashNeeds(3, "1:0:", "");
        c.says("trust() for 0 to 4");
        hashNeeds(4, ORDINARY, "");
        c.says("cut() for 0 to 2");
        hashNeeds(5, ORDINARY, "");
        c.says("dearest(), and, if this is not NONE, without() of this vouch for 0 to 2");
        hashNeeds(6, ORDINARY, "");
        // the vouches 87, 78 and 10
        hashNeeds(6, "9:99:;;;;;;;;*>7", "");
        hashNeeds(6, "9:99:;;;;;;;*>8;", "");
        hashNeeds(6, "2:99:;*>0", "");
        c.note("dearest() and three more", groups(c.read(ORDINARY), "").get(6).size(), 4);
        hashNeeds(6, "2:9:*;!", "");
        c.note("dearest() alone", groups(c.read("2:9:*;!"), "").get(6).size(), 1);
        c.says("If there are seeds, for each k from 0 to 4: for each person chance() for 0 and 1, and thousandths()",
                "then order() of each index");
        hashNeeds(7, "1:0:*", "");
        hashNeeds(7, WALKED, "");
        c.note("four results for each person and k", groups(c.read(WALKED), "").get(7).size(), 5 * 4 * 4);
        c.note("nothing without seeds", groups(c.read(SEEDLESS), "").get(7).size(), 0);
        c.due(c.read(SEEDLESS), "digest()", hash(groups(c.read(SEEDLESS), "")));
        c.says("The codes of the characters on the page");
        hashNeeds(8, ORDINARY, " ");
        hashNeeds(8, ORDINARY, "~".repeat(110));
        c.says("count() for 0 to 4");
        hashNeeds(9, ORDINARY, "");
        c.due(c.read("1:0:"), "digest()", hash(groups(c.read("1:0:"), "")));
    }
}
