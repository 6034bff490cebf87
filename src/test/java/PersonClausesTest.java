/** The clauses of the promises 7 to 15: persons, vouches and bounds. */
public final class PersonClausesTest {
    private static final int NONE = Clauses.NONE, UNKNOWN = Clauses.UNKNOWN, OUTSIDE = Clauses.OUTSIDE,
            STATE = Clauses.STATE, FULL = Clauses.FULL, LEAST = Clauses.LEAST, MOST = Clauses.MOST;

    private static final String ORDINARY = "6:421:*>1>2;>3>4;>4;!>5;!;!";
    /** As many persons, bounds, seeds and vouches as there can be, with the marks that a page has room for. */
    private static final String MUCH = "9:12345:*>1>2>3>4>5;*>0>2>3>4>5;*>0>1>3>4>5;*>0>1>2>4>5;*>0>1>2>3>5;"
            + ">0>1>2>3>4;>0>1>2>3>4;>0>1>2>3>4;>0>1>2>3";
    private static final int[] NOBODY = Clauses.NOBODY;

    private final Clauses c = new Clauses();

    public static void main(String[] args) {
        PersonClausesTest t = new PersonClausesTest();
        t.kind();
        t.kindRefused();
        t.as();
        t.vouch();
        t.vouchRefused();
        t.recall();
        t.recallRefused();
        t.bound();
        t.about();
        t.person();
        t.personRefused();
        t.vouches();
        t.generous();
        t.c.end("Promise 7", "Promise 8", "Promise 9", "Promise 10", "Promise 11", "Promise 12", "Promise 13", "Promise 14",
                "Promise 15");
    }

    private void kind() {
        c.section("Promise 7");
        c.says("Changes the kind of a person");
        VouchFlow x = c.read("3:0:;*;!");
        for (int person = 0; person < 3; person++) {
            int before = person;
            for (int kind : new int[] {0, 1, 1, 2, 2, 0, 0, 2, 1, 0}) {
                c.due(x, "kind(" + person + ", " + kind + ")", before);
                c.due(x, "person(" + person + ", 0)", kind);
                before = kind;
            }
        }
        c.inkIs(x, "3:0:;;");
        c.says("the vouches stay");
        x = c.read("3:0:>1>2;*>2;!>0");
        c.due(x, "kind(0, 2)", 0);
        c.due(x, "kind(1, 0)", 1);
        c.due(x, "kind(2, 1)", 2);
        c.inkIs(x, "3:0:!>1>2;>2;*>0");
        c.says("`person`: number of the person");
        x = c.read(MUCH);
        c.due(x, "kind(0, 0)", 1);
        c.due(x, "kind(8, 1)", 0);
        c.says("`kind`: 0 to 2");
        x = c.read("1:0:");
        c.due(x, "kind(0, 2)", 0);
        c.due(x, "kind(0, 0)", 2);
        c.says("Returns the kind before");
        x = c.read(ORDINARY);
        c.due(x, "kind(0, 2)", 1);
        c.due(x, "kind(1, 2)", 0);
        c.due(x, "kind(3, 2)", 2);
        c.due(x, "kind(3, 0)", 2);
    }

    private void kindRefused() {
        c.says("UNKNOWN if there is no such person");
        c.dueForEach(new VouchFlow(), "kind(#, 0)", UNKNOWN, 0, 1, -1);
        c.dueForEach(new VouchFlow(), "kind(#, 3)", UNKNOWN, 0, -1);
        c.dueForEach(c.read("1:0:"), "kind(#, 0)", UNKNOWN, -1, 1, 8, LEAST, MOST);
        c.dueForEach(c.read(MUCH), "kind(#, 2)", UNKNOWN, NOBODY);
        // five seeds, no such person, or no such kind: nobody comes first
        c.dueForEach(c.read(MUCH), "kind(#, 1)", UNKNOWN, NOBODY);
        c.dueForEach(c.read(MUCH), "kind(#, 3)", UNKNOWN, NOBODY);
        c.dueForEach(c.read(MUCH), "kind(#, -1)", UNKNOWN, NOBODY);
        c.says("OUTSIDE if kind is out of range");
        int[] beyond = {-1, 3, LEAST, MOST, -2, 4, 256, 257, 65537, LEAST + 1};
        c.dueForEach(c.read("1:0:"), "kind(0, #)", OUTSIDE, beyond);
        c.dueForEach(c.read(MUCH), "kind(0, #)", OUTSIDE, beyond);
        c.dueForEach(c.read(MUCH), "kind(8, #)", OUTSIDE, beyond);
        c.says("FULL if there would be six seeds");
        VouchFlow x = c.read("9:0:;;;;;;;;");
        c.dueForEach(x, "kind(#, 1)", 0, 8, 6, 4, 2, 0);
        c.dueForEach(x, "kind(#, 1)", FULL, 1, 3, 5, 7);
        // who is a seed already makes no sixth one
        c.dueForEach(x, "kind(#, 1)", 1, 8, 6, 4, 2, 0);
        c.due(x, "kind(7, 2)", 0);
        c.due(x, "kind(7, 1)", FULL);
        c.due(x, "kind(8, 2)", 1);
        c.due(x, "kind(7, 1)", 2);
        c.due(x, "kind(8, 1)", FULL);
        c.inkIs(x, "9:0:*;;*;;*;;*;*;!");
        c.due(c.read("6:0:*;*;*;*;*;"), "kind(5, 1)", FULL);
        c.due(c.read("6:0:*;*;*;*;;"), "kind(5, 1)", 0);
    }

    private void as() {
        c.section("Promise 8");
        c.says("Casts a person to a kind (by storing the person in an array of this type)", "Returns the kind of the person");
        VouchFlow x = c.read("3:0:;*;!");
        c.dueForEach(x, "as(0, #)", 0, 0);
        c.dueForEach(x, "as(1, #)", 1, 0, 1);
        c.dueForEach(x, "as(2, #)", 2, 0, 2);
        c.says("`person`: number of the person");
        x = c.read("9:0:!;;;;;;;;*");
        c.due(x, "as(0, 2)", 2);
        c.due(x, "as(8, 1)", 1);
        c.due(x, "kind(8, 2)", 1);
        c.due(x, "as(8, 2)", 2);
        c.says("`kind`: 0 to 2");
        c.dueInTurn(x, "as(8, #)", 2, NONE, 2, OUTSIDE);
        c.says("NONE if the cast fails, that is, if kind is not 0 and not the kind of the person");
        x = c.read("3:0:;*;!");
        c.dueForEach(x, "as(0, #)", NONE, 1, 2);
        c.due(x, "as(1, 2)", NONE);
        c.due(x, "as(2, 1)", NONE);
        c.says("UNKNOWN if there is no such person");
        for (int kind : new int[] {0, 1, 2, 3, -1}) {
            c.dueForEach(new VouchFlow(), "as(#, " + kind + ")", UNKNOWN, 0, 1, -1);
            c.dueForEach(c.read("3:0:;*;!"), "as(#, " + kind + ")", UNKNOWN, -1, 3, 9, LEAST, MOST, 32, 33);
            c.dueForEach(c.read(MUCH), "as(#, " + kind + ")", UNKNOWN, NOBODY);
        }
        c.says("OUTSIDE if kind is out of range");
        for (int person = 0; person < 3; person++) {
            c.dueForEach(c.read("3:0:;*;!"), "as(" + person + ", #)", OUTSIDE, -1, 3, LEAST, MOST, 256, 257, 258);
        }
    }

    private void vouch() {
        c.section("Promise 9");
        c.says("Adds a vouch");
        VouchFlow x = c.read("3:0:;*;!>1");
        c.due(x, "vouch(0, 2)", 1);
        c.due(x, "vouches(0, 2)", 1);
        c.due(x, "vouches(2, 0)", 0);
        c.due(x, "vouch(0, 1)", 2);
        c.due(x, "vouch(2, 0)", 2);
        c.inkIs(x, "3:0:>1>2;*;!>0>1");
        c.due(x, "count(3)", 3);
        c.says("`by`: number of the person who vouches");
        x = c.read("9:0:;;;;;;;;");
        c.due(x, "vouch(0, 4)", 1);
        c.due(x, "vouch(8, 4)", 1);
        c.says("`whom`: number of another person");
        c.due(x, "vouch(4, 0)", 1);
        c.due(x, "vouch(4, 8)", 2);
        c.due(x, "vouch(0, 8)", 2);
        c.due(x, "vouch(8, 0)", 2);
        c.inkIs(x, "9:0:>4>8;;;;>0>8;;;;>0>4");
        c.says("Returns for how many the person vouches then");
        x = c.read("9:0:;;;;;;;;");
        for (int many = 1; many <= 5; many++) {
            c.due(x, "vouch(3, " + (9 - many) + ")", many);
            c.due(x, "person(3, 3)", many);
        }
        c.inkIs(x, "9:0:;;;>4>5>6>7>8;;;;;");
    }

    private void vouchRefused() {
        c.says("UNKNOWN if there is no such person, or both are the same");
        c.dueForEach(new VouchFlow(), "vouch(#, 1)", UNKNOWN, 0, 1, 2, -1);
        c.dueForEach(c.read("1:0:"), "vouch(0, #)", UNKNOWN, 0, 1, -1);
        c.dueForEach(c.read("8:0:;;;;;;;"), "vouch(7, #)", UNKNOWN, 7, 8, -1, LEAST, MOST, 32, 39);
        c.dueForEach(c.read("8:0:;;;;;;;"), "vouch(#, 7)", UNKNOWN, 7, 8, -1, LEAST, MOST, 32, 39);
        // the first five can vouch for nobody more, and 8 for one more
        c.dueForEach(c.read(MUCH), "vouch(0, #)", UNKNOWN, NOBODY);
        c.dueForEach(c.read(MUCH), "vouch(8, #)", UNKNOWN, NOBODY);
        c.dueForEach(c.read(MUCH), "vouch(#, 0)", UNKNOWN, NOBODY);
        c.dueForEach(c.read(MUCH), "vouch(#, 9)", UNKNOWN, NOBODY);
        for (int person = 0; person < 9; person++) {
            c.due(c.read(MUCH), "vouch(" + person + ", " + person + ")", UNKNOWN);
            c.due(c.read("9:0:;;;;;;;;"), "vouch(" + person + ", " + person + ")", UNKNOWN);
        }
        c.says("STATE if there is this vouch already");
        VouchFlow x = c.read("3:0:>2;>0;");
        c.due(x, "vouch(0, 2)", STATE);
        c.due(x, "vouch(1, 0)", STATE);
        c.due(x, "vouch(2, 0)", 1);
        c.due(x, "vouch(2, 0)", STATE);
        // it stands already, and there is no room for another: it comes first that it stands
        c.dueForEach(c.read(MUCH), "vouch(0, #)", STATE, 1, 2, 3, 4, 5);
        c.says("FULL if the person vouches for five");
        c.dueForEach(c.read(MUCH), "vouch(0, #)", FULL, 6, 7, 8);
        x = c.read(MUCH);
        c.due(x, "vouch(8, 7)", 5);
        c.dueForEach(x, "vouch(8, #)", FULL, 4, 5, 6);
        c.due(x, "recall(8, 0)", 4);
        c.due(x, "vouch(8, 4)", 5);
        c.due(x, "vouch(8, 0)", FULL);
        c.due(x, "count(3)", 2);
        c.due(c.read("7:0:;;;;;;>0>1>2>3>4"), "vouch(6, 5)", FULL);
        c.due(c.read("7:0:;;;;;;>0>1>2>3"), "vouch(6, 5)", 5);
        // others' vouches, and vouches for the person, take no room
        c.due(c.read("7:0:>6;>6;>6;>6;>6;>6;"), "vouch(6, 0)", 1);
    }

    private void recall() {
        c.section("Promise 10");
        c.says("Removes a vouch");
        VouchFlow x = c.read("3:0:*>1>2;>0>2;!>0");
        c.due(x, "recall(0, 2)", 1);
        c.due(x, "vouches(0, 2)", 0);
        c.due(x, "vouches(2, 0)", 1);
        c.inkIs(x, "3:0:*>1;>0>2;!>0");
        c.due(x, "count(4)", 1);
        c.due(x, "count(3)", 0);
        c.says("`by`: number of the person who vouches");
        x = c.read("9:0:>4>8;;;;>0>8;;;;>0>4");
        c.due(x, "recall(0, 4)", 1);
        c.due(x, "recall(8, 4)", 1);
        c.says("`whom`: number of another person");
        c.due(x, "recall(4, 0)", 1);
        c.due(x, "recall(4, 8)", 0);
        c.due(x, "recall(0, 8)", 0);
        c.due(x, "recall(8, 0)", 0);
        c.inkIs(x, "9:0:;;;;;;;;");
        c.says("Returns for how many the person vouches then");
        x = c.read("9:0:;;;>4>5>6>7>8;;;;;");
        for (int left = 4; left >= 0; left--) {
            c.due(x, "recall(3, " + (4 + left) + ")", left);
            c.due(x, "person(3, 3)", left);
        }
    }

    private void recallRefused() {
        c.says("UNKNOWN if there is no such person, or both are the same");
        c.dueForEach(new VouchFlow(), "recall(#, 1)", UNKNOWN, 0, 1, 2, -1);
        c.dueForEach(c.read("1:0:"), "recall(0, #)", UNKNOWN, 0, 1, -1);
        c.dueForEach(c.read("8:0:;;;;;;;>0>6"), "recall(7, #)", UNKNOWN, 7, 8, -1, LEAST, MOST, 32, 38);
        c.dueForEach(c.read("8:0:>7;;;;;;;"), "recall(#, 7)", UNKNOWN, 7, 8, -1, LEAST, MOST, 32);
        c.dueForEach(c.read(MUCH), "recall(1, #)", UNKNOWN, NOBODY);
        c.dueForEach(c.read(MUCH), "recall(#, 1)", UNKNOWN, NOBODY);
        c.dueForEach(c.read(MUCH), "recall(#, 9)", UNKNOWN, NOBODY);
        for (int person = 0; person < 9; person++) {
            c.due(c.read(MUCH), "recall(" + person + ", " + person + ")", UNKNOWN);
        }
        c.says("STATE if there is no such vouch");
        VouchFlow x = c.read("3:0:>2;>0;");
        c.due(x, "recall(0, 1)", STATE);
        c.due(x, "recall(2, 0)", STATE);
        c.due(x, "recall(0, 2)", 0);
        c.due(x, "recall(0, 2)", STATE);
        c.dueForEach(c.read(MUCH), "recall(0, #)", STATE, 6, 7, 8);
        c.dueForEach(c.read("9:0:;;;;;;;;"), "recall(8, #)", STATE, 0, 7);
        c.due(x, "count(4)", 1);
    }

    private void bound() {
        c.section("Promise 11");
        c.says("Changes a bound");
        VouchFlow x = c.read("2:12345:*>1;");
        c.due(x, "bound(1, 7)", 2);
        c.inkIs(x, "2:17345:*>1;");
        c.due(x, "person(1, 2)", 7);
        c.says("`place`: index of the bound");
        c.due(x, "bound(0, 6)", 1);
        c.due(x, "bound(4, 8)", 5);
        c.inkIs(x, "2:67348:*>1;");
        c.says("`v`: 0 to 9");
        c.due(x, "bound(0, 0)", 6);
        c.due(x, "bound(0, 9)", 0);
        c.due(x, "person(0, 2)", 9);
        c.says("Returns the bound before");
        for (int v = 9; v >= 0; v--) {
            c.due(x, "bound(0, " + v + ")", v == 9 ? 9 : v + 1);
        }
        c.due(x, "bound(0, 0)", 0);
        c.says("UNKNOWN if there is no such bound");
        c.dueForEach(new VouchFlow(), "bound(#, 0)", UNKNOWN, 0, 1, -1, LEAST, MOST);
        c.dueForEach(new VouchFlow(), "bound(#, 10)", UNKNOWN, 0, -1);
        for (int bounds = 1; bounds <= 5; bounds++) {
            VouchFlow y = c.read("1:" + "98765".substring(0, bounds) + ":");
            c.dueForEach(y, "bound(#, 0)", UNKNOWN, bounds, -1, 5, 6, LEAST, MOST, 32, LEAST + 1);
            c.dueForEach(y, "bound(#, 10)", UNKNOWN, bounds, -1, MOST);
            c.dueForEach(y, "bound(#, -1)", UNKNOWN, bounds, -1, LEAST);
            c.due(y, "bound(" + (bounds - 1) + ", 0)", 10 - bounds);
        }
        // a circle of nine persons with one bound, after one with five
        x = c.read("1:12345:");
        c.type(x, "9:0:;;;;;;;;");
        c.due(x, "circle()", 9);
        c.dueForEach(x, "bound(#, 0)", UNKNOWN, 1, 4, 8);
        c.says("OUTSIDE if v is out of range");
        c.dueForEach(c.read("1:12345:"), "bound(0, #)", OUTSIDE, -1, 10, LEAST, MOST, 11, '0', '9', 256, 65536);
        c.dueForEach(c.read("1:12345:"), "bound(4, #)", OUTSIDE, -1, 10, LEAST, MOST);
    }

    private void abouts(int what, int due, String text) {
        c.due(c.read(text), "about(" + what + ")", due);
    }

    private void about() {
        c.section("Promise 12");
        c.says("Returns a figure of the circle", "Returns the figure");
        c.dueInTurn(c.read(ORDINARY), "about(#)", 6, 1, 3, 6, 3, 6, 3, 10, OUTSIDE);
        c.says("`what`: 0: the number of persons");
        abouts(0, 1, "1:0:");
        abouts(0, 9, MUCH);
        c.says("1: of seeds");
        abouts(1, 0, "9:0:!;;;;;;;;!");
        abouts(1, 1, "9:0:;;;;;;;;*");
        abouts(1, 5, MUCH);
        c.says("2: of false persons");
        abouts(2, 0, "9:0:*;;;;;;;;*");
        abouts(2, 9, "9:0:!;!;!;!;!;!;!;!;!");
        c.says("3: of vouches");
        abouts(3, 0, "9:0:*;!;;;;;;;");
        VouchFlow x = c.read(MUCH);
        c.due(x, "about(3)", 44);
        c.due(x, "vouch(8, 7)", 5);
        c.due(x, "about(3)", 45);
        c.says("4: of bounds");
        abouts(4, 1, "9:0:;;;;;;;;");
        abouts(4, 5, "1:00000:");
        c.says("5: of persons with a level");
        abouts(5, 0, "3:9:>1;>2;>0");
        abouts(5, 1, "3:9:*;>2;>0");
        // also those for whose level there is no bound
        abouts(5, 9, "9:0:*>1;>2;>3;>4;>5;>6;>7;>8;");
        c.says("6: the greatest level, NONE if nobody has one");
        abouts(6, NONE, "3:9:>1;>2;>0");
        abouts(6, NONE, "1:9:");
        abouts(6, 0, "1:9:*");
        abouts(6, 0, "5:9:*>1;*>2;*>3;*>4;*>0");
        abouts(6, 8, "9:0:>1;>2;>3;>4;>5;>6;>7;;*>0");
        c.says("7: the sum of all limits");
        abouts(7, 0, "3:9:>1;>2;>0");
        abouts(7, 0, "5:0:*;*;*;*;*");
        abouts(7, 81, "9:999:*>5;*>6;*>7;*>8;*;;;;");
        abouts(7, 45, "9:99999:*>1;>2;>3;>4;>5;>6;>7;>8;");
        c.says("OUTSIDE if what is out of range");
        c.dueForEach(c.read(ORDINARY), "about(#)", OUTSIDE, -1, 8, LEAST, MOST, 9, 256, 65536, LEAST + 7);
        c.dueForEach(new VouchFlow(), "about(#)", OUTSIDE, -1, 8, LEAST, MOST);
        c.says("STATE if there is no circle");
        c.dueInTurn(new VouchFlow(), "about(#)", STATE, STATE, STATE, STATE, STATE, STATE, STATE, STATE, OUTSIDE);
        c.due(c.typed("1:0:*"), "about(0)", STATE);
    }

    private void persons(int what, int due, int person, String text) {
        c.due(c.read(text), "person(" + person + ", " + what + ")", due);
    }

    private void person() {
        c.section("Promise 13");
        c.says("Returns a property of a person", "Returns the property");
        c.dueInTurn(c.read(ORDINARY), "person(1, #)", 0, 1, 2, 2, 1, 1, 1, 1, OUTSIDE);
        c.says("`person`: number of the person");
        persons(0, 1, 0, MUCH);
        persons(0, 0, 8, MUCH);
        c.says("`what`: 0: the kind");
        c.dueInTurn(c.read("3:0:;*;!"), "person(#, 0)", 0, 1, 2, UNKNOWN);
        c.says("1: the level, NONE if there is none");
        c.dueInTurn(c.read("9:0:*>1;>2;>3;>4;>5;>6;>7;>8;"), "person(#, 1)", 0, 1, 2, 3, 4, 5, 6, 7, 8);
        c.dueInTurn(c.read("3:9:*;>2;>1"), "person(#, 1)", 0, NONE, NONE);
        c.says("2: the limit");
        c.dueInTurn(c.read("9:98765:*>1;>2;>3;>4;>5;>6;>7;>8;"), "person(#, 2)", 9, 8, 7, 6, 5, 0, 0, 0, 0);
        c.dueInTurn(c.read("3:9:*;>2;>1"), "person(#, 2)", 9, 0, 0);
        c.says("3: for how many the person vouches");
        persons(3, 0, 0, "1:0:*");
        persons(3, 5, 8, "9:0:;;;;;;;;>0>1>2>3>4");
        c.says("4: how many vouch for the person");
        persons(4, 0, 0, "1:0:*");
        persons(4, 8, 8, "9:0:>8;>8;>8;>8;>8;>8;>8;>8;");
        persons(4, 8, 0, "9:0:;>0;>0;>0;>0;>0;>0;>0;>0");
        c.says("5: 1 if the person is in, 0 if not");
        c.dueInTurn(c.read("4:11:*;>2;*;*>1"), "person(#, 5)", 1, 1, 1, 0);
        c.dueInTurn(c.read("2:0:*;"), "person(#, 5)", 0, 0);
        c.says("6: 1 if the person is taken in, 0 if not");
        // a seed, a person with a limit, a false one, and persons without a limit or a level
        c.dueInTurn(c.read("6:11:*>1>2;>2;!>5;>2;>3;!"), "person(#, 6)", 1, 1, 0, 0, 0, 0);
        c.dueInTurn(c.read("4:1:*>1;>2;!;>2"), "person(#, 6)", 0, 0, 0, 0);
        c.says("7: the number of ways to the person, NONE for a seed");
        c.dueInTurn(c.read("7:0:*>5;*>5;*>5;*>5;*>5;;"), "person(#, 7)", NONE, NONE, NONE, NONE, NONE, 5, 0);
        c.dueInTurn(c.read("3:0:>1;>2;>0"), "person(#, 7)", 0, 0, 0);
    }

    private void personRefused() {
        c.says("UNKNOWN if there is no such person");
        for (int what : new int[] {0, 7, 8, -1}) {
            c.dueForEach(new VouchFlow(), "person(#, " + what + ")", UNKNOWN, 0, 1, -1, 9);
            c.dueForEach(c.read("1:0:*"), "person(#, " + what + ")", UNKNOWN, -1, 1, LEAST, MOST, 32);
            c.dueForEach(c.read(MUCH), "person(#, " + what + ")", UNKNOWN, NOBODY);
        }
        c.says("OUTSIDE if what is out of range");
        c.dueForEach(c.read("1:0:*"), "person(0, #)", OUTSIDE, -1, 8, LEAST, MOST, 9, 256, 65536, LEAST + 7);
        c.dueForEach(c.read(MUCH), "person(8, #)", OUTSIDE, -1, 8, LEAST, MOST);
    }

    private void vouches() {
        c.section("Promise 14");
        c.says("Tells whether a person vouches for another one", "Returns 1 or 0");
        VouchFlow x = c.read("3:0:*>1;>2;");
        c.due(x, "vouches(0, 1)", 1);
        c.due(x, "vouches(1, 0)", 0);
        c.due(x, "vouches(0, 2)", 0);
        c.due(x, "vouches(1, 2)", 1);
        c.due(x, "vouch(2, 0)", 1);
        c.due(x, "vouches(2, 0)", 1);
        c.due(x, "recall(0, 1)", 0);
        c.due(x, "vouches(0, 1)", 0);
        c.says("`by`: number of the person who may vouch");
        x = c.read("9:0:>7;;;;;;;;>7");
        c.due(x, "vouches(0, 7)", 1);
        c.due(x, "vouches(8, 7)", 1);
        c.due(x, "vouches(7, 8)", 0);
        c.says("`whom`: number of another person");
        x = c.read("9:0:;>0>8;;;;;;;");
        c.due(x, "vouches(1, 0)", 1);
        c.due(x, "vouches(1, 8)", 1);
        c.due(x, "vouches(1, 7)", 0);
        c.says("UNKNOWN if there is no such person, or both are the same");
        c.dueForEach(new VouchFlow(), "vouches(#, 1)", UNKNOWN, 0, 1, 2, -1);
        c.dueForEach(c.read("1:0:"), "vouches(0, #)", UNKNOWN, 0, 1, -1);
        c.dueForEach(c.read("8:0:>7;;;;;;;>0"), "vouches(7, #)", UNKNOWN, 7, 8, -1, LEAST, MOST, 32);
        c.dueForEach(c.read("8:0:>7;;;;;;;>0"), "vouches(#, 7)", UNKNOWN, 7, 8, -1, LEAST, MOST, 32);
        c.dueForEach(c.read(MUCH), "vouches(1, #)", UNKNOWN, NOBODY);
        c.dueForEach(c.read(MUCH), "vouches(#, 1)", UNKNOWN, NOBODY);
        for (int person = 0; person < 9; person++) {
            c.due(c.read(MUCH), "vouches(" + person + ", " + person + ")", UNKNOWN);
        }
    }

    private void generousIs(int due, String text) {
        c.due(c.read(text), "generous()", due);
    }

    private void generous() {
        c.section("Promise 15");
        c.says("Finds, among those for whom somebody vouches, the person with the greatest quotient of the number of persons"
                + " for whom this one vouches and the number of those who vouch for this one", "Returns the person");
        // 3/4 for person 1 is more than 2/3 for person 0
        generousIs(1, "9:0:>2>3;>2>3>4;;;;>0>1;>0>1;>0>1;>1");
        // 3/1 is more than 2/1
        generousIs(1, "6:0:>2>3;>3>4>5;;;>0;>1");
        // nobody vouches for person 0, who vouches for five
        generousIs(6, "7:0:>1>2>3>4>6;;;;;;>1");
        // 0/1 is a quotient, too
        generousIs(2, "3:0:>2;;");
        // 5/1 and 0/8 are the greatest and the least one
        generousIs(8, "9:0:>7>8;>7;>7;>7;>7;>7;>7;;>0>1>2>3>7");
        c.says("of several the smallest number");
        generousIs(0, "9:0:>1;>2;>3;>4;>5;>6;>7;>8;>0");
        generousIs(1, "3:0:>1>2;;");
        // 1/2 and 2/4
        generousIs(0, "9:0:>2;>2>3;;;>0>1;>0>1;>1;>1;");
        // 2/2 and 1/1, and the other way round
        generousIs(0, "5:0:>1>2;>3;;>0;>0");
        generousIs(0, "3:0:>1;>0>2;>1");
        c.says("NONE if nobody vouches for anybody");
        generousIs(NONE, "1:9:*");
        generousIs(NONE, "9:9:*;*;!;!;;;;;");
        VouchFlow x = c.read("2:0:>1;");
        c.due(x, "generous()", 1);
        c.due(x, "recall(0, 1)", 0);
        c.due(x, "generous()", NONE);
        c.says("STATE if there is no circle");
        c.due(new VouchFlow(), "generous()", STATE);
        c.due(c.typed("2:0:>1;"), "generous()", STATE);
    }
}
